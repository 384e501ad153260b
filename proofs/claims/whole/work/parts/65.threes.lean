/-! ===== threes ===== -/
abbrev isT (u n a d : Nat) : Prop := 1 ≤ d ∧ n * n % d = 0 ∧ u * a < d + n ∧ (d + n) % u = 0
def TBn (u n a k : Nat) : List Nat := (List.range k).filter (fun d => decide (isT u n a d))
theorem TBn_s {u n a k : Nat} : TBn u n a (k + 1) = TBn u n a k ++ (if isT u n a k then [k] else []) := by
  unfold TBn
  rw [List.range_succ, List.filter_append]
  by_cases h : isT u n a k
  · simp [List.filter_cons, h]
  · simp [List.filter_cons, h]
theorem TBn_skip {u n a k : Nat} : ∀ j, (∀ d, k ≤ d → d < k + j → ¬ isT u n a d) → TBn u n a (k + j) = TBn u n a k := by
  intro j
  induction j with
  | zero => intro _; rfl
  | succ j ih =>
    intro h
    rw [← Nat.add_assoc, TBn_s, if_neg (h (k + j) (by omega) (by omega)), List.append_nil, ih (fun d h1 h2 => h d h1 (by omega))]
theorem TBn_mem {u n a k d : Nat} : d ∈ TBn u n a k ↔ d < k ∧ isT u n a d := by
  unfold TBn
  rw [List.mem_filter, List.mem_range, decide_eq_true_iff]
theorem TBn_nodup {u n a k : Nat} : (TBn u n a k).Nodup := List.Pairwise.filter _ List.nodup_range
theorem TBn_1100 {u n a k : Nat} (hn1 : 1 ≤ n) (hn : n ≤ 270000) (hk : k ≤ n) : (TBn u n a k).length ≤ 1100 :=
  sq_1100 hn1 hn TBn_nodup (fun d hd => ⟨by have := (TBn_mem.mp hd).1; omega, Nat.dvd_of_mod_eq_zero (TBn_mem.mp hd).2.2.1⟩)
/-- a list without twins of all divisors of n n below n gives the same count -/
theorem TB_list {u n a : Nat} {l : List Nat} (hn : l.Nodup) (hn1 : 1 ≤ n) (hl : ∀ d, d ∈ l ↔ d < n ∧ d ∣ n * n) : (l.filter (fun d => decide (u * a < d + n ∧ (d + n) % u = 0))).length = (TBn u n a n).length := by
  have hpos : ∀ d, d ∣ n * n → 1 ≤ d := by
    intro d hd
    rcases Nat.eq_zero_or_pos d with z | z
    · subst z
      have h1 := Nat.eq_zero_of_zero_dvd hd
      have h2 : 0 < n * n := Nat.mul_pos hn1 hn1
      omega
    · exact z
  refine Nat.le_antisymm (nodup_le _ _ (List.Pairwise.filter _ hn) (fun x hx => ?_)) (nodup_le _ _ TBn_nodup (fun x hx => ?_))
  · obtain ⟨h1, h2⟩ := List.mem_filter.mp hx
    have h3 := of_decide_eq_true h2
    obtain ⟨h4, h5⟩ := (hl x).mp h1
    exact TBn_mem.mpr ⟨h4, hpos x h5, Nat.mod_eq_zero_of_dvd h5, h3.1, h3.2⟩
  · obtain ⟨h1, h2, h3, h4, h5⟩ := TBn_mem.mp hx
    exact List.mem_filter.mpr ⟨(hl x).mpr ⟨h1, Nat.dvd_of_mod_eq_zero h3⟩, decide_eq_true ⟨h4, h5⟩⟩
theorem cpb11 {Q : Int → (Int → Int) → Int → Prop} {u n a : Nat} {f : Int → Int} {l : List Nat} (hu : 1 ≤ u) (hua : u * a ≤ 1000000000) (hn : n ≤ 270000) (hr : rep f l) (hlen : l.length ≤ 1100) (hlt : ∀ d ∈ l, d < n)
    (h : Q ((l.filter (fun d => decide (u * a < d + n ∧ (d + n) % u = 0))).length : Nat) f (l.length : Nat)) :
    ∀ (l2 l1 : List Nat), l = l1 ++ l2 → wp_X5_countPairsBehind_11 Q (l2.length + 1) f (l.length : Nat) a u n ((l1.filter (fun d => decide (u * a < d + n ∧ (d + n) % u = 0))).length : Nat) (l1.length : Nat) := by
  intro l2
  induction l2 with
  | nil =>
    intro l1 e
    rw [List.append_nil] at e
    subst e
    rw [wp_X5_countPairsBehind_11]
    exact ⟨fun _ => h, fun z => absurd z (by omega)⟩
  | cons x l2 ih =>
    intro l1 e
    rw [wp_X5_countPairsBehind_11]
    unfold wp_X5_countPairsBehind_55
    have hl : l.length = l1.length + (l2.length + 1) := by rw [e, List.length_append, List.length_cons]
    have hget : l[l1.length]? = some x := by
      rw [e, List.getElem?_append_right (Nat.le_refl _), Nat.sub_self]
      rfl
    have hfx := hr _ _ hget
    have hxn := hlt x (List.mem_of_getElem? hget)
    have hfl : (l1.filter (fun d => decide (u * a < d + n ∧ (d + n) % u = 0))).length ≤ l1.length := List.length_filter_le _ _
    have go := ih (l1 ++ [x]) (by rw [e, List.append_assoc]; rfl)
    have e1 : ((l1.length : Nat) : Int) + 1 = (((l1 ++ [x]).length : Nat) : Int) := by rw [List.length_append, List.length_singleton]; rfl
    rw [List.filter_append, List.length_append] at go
    rw [e1]
    have c1 : (u : Int) * (a : Int) = ((u * a : Nat) : Int) := rfl
    have c2 : (x : Int) + (n : Int) = ((x + n : Nat) : Int) := rfl
    have hlt1 : l1.length < 1100 := by omega
    have no : ¬ (u * a < x + n ∧ (x + n) % u = 0) → wp_X5_countPairsBehind_11 Q (l2.length + 1) f (l.length : Nat) a u n ((l1.filter (fun d => decide (u * a < d + n ∧ (d + n) % u = 0))).length : Nat) ((l1 ++ [x]).length : Nat) := by
      intro hno
      have e2 : ([x].filter (fun d => decide (u * a < d + n ∧ (d + n) % u = 0))).length = 0 := by simp [List.filter_cons, hno]
      rw [e2, Nat.add_zero] at go
      exact go
    have yes : (u * a < x + n ∧ (x + n) % u = 0) → wp_X5_countPairsBehind_11 Q (l2.length + 1) f (l.length : Nat) a u n (((l1.filter (fun d => decide (u * a < d + n ∧ (d + n) % u = 0))).length + 1 : Nat) : Int) ((l1 ++ [x]).length : Nat) := by
      intro hy
      have e2 : ([x].filter (fun d => decide (u * a < d + n ∧ (d + n) % u = 0))).length = 1 := by simp [List.filter_cons, hy]
      rw [e2] at go
      exact go
    generalize (l1.filter (fun d => decide (u * a < d + n ∧ (d + n) % u = 0))).length = C at *
    have hl1x : ((l1 ++ [x]).length : Nat) = l1.length + 1 := by rw [List.length_append, List.length_singleton]
    refine ⟨fun z => absurd z (by omega), fun _ => ⟨by omega, by omega, fun y hy => ?_⟩⟩
    rw [hy, hfx, c1, c2, nm_tmod]
    generalize hU : u * a = U at *
    refine ⟨⟨by omega, by omega⟩, ⟨by omega, by omega⟩, fun z => ⟨⟨by omega, by omega⟩, no (fun w => by omega)⟩, fun z => ⟨fun w => absurd w (by omega), fun _ => ⟨⟨by omega, by omega⟩, by omega, fun w => ⟨⟨by omega, by omega⟩, no (fun v => w (by rw [v.2]; rfl))⟩, fun w => ⟨⟨by omega, by omega⟩, ⟨by omega, by omega⟩, ?_⟩⟩⟩⟩
    have e4 : (C : Int) + 1 = ((C + 1 : Nat) : Int) := rfl
    rw [e4]
    exact yes ⟨by omega, Int.ofNat.inj w⟩
theorem cpb5 {Q : Int → (Int → Int) → Int → Prop} {u n a : Nat} {f : Int → Int} {s : Int} (hu : 1 ≤ u) (hua : u * a ≤ 1000000000) (hn : n ≤ 270000) (hn1 : 1 ≤ n)
    (h : ∀ f' s', Q ((TBn u n a n).length : Nat) f' s') : wp_X5_countPairsBehind Q f s a u n := by
  unfold wp_X5_countPairsBehind
  refine listSq5 hn hn1 (fun l f' hr hnd hl => ⟨l.length + 1, ?_⟩)
  have hlen : l.length ≤ 1100 := sq_1100 hn1 hn hnd (fun d hd => (hl d).mp hd)
  exact cpb11 hu hua hn hr hlen (fun d hd => ((hl d).mp hd).1) (by rw [TB_list hnd hn1 hl]; exact h _ _) l [] rfl
/-- the number that 1 by b leaves to be made -/
theorem three_eq {u n a b d : Nat} (hu : 1 ≤ u) (hg : Nat.gcd u n = 1) (hd : 1 ≤ d) (h : d + n = u * b) (hab : a < b) : n * b % d = 0 ↔ isT u n a d := by
  have h1 : u * a < d + n := by rw [h]; exact Nat.mul_lt_mul_of_pos_left hab hu
  have h2 : (d + n) % u = 0 := by rw [h]; exact Nat.mul_mod_right u b
  have e1 : n * (u * b) = u * (n * b) := by grind
  constructor
  · intro hm
    obtain ⟨c, hc⟩ := Nat.dvd_of_mod_eq_zero hm
    refine ⟨hd, ?_, h1, h2⟩
    have h3 : d ∣ n * d + n * n := by
      rw [← Nat.mul_add, h, e1, hc]
      exact ⟨u * c, by grind⟩
    exact Nat.mod_eq_zero_of_dvd ((Nat.dvd_add_right (Nat.dvd_mul_left d n)).mp h3)
  · rintro ⟨_, h3, _, _⟩
    have h4 : d ∣ u * (n * b) := by
      rw [← e1, ← h, Nat.mul_add]
      exact Nat.dvd_add (Nat.dvd_mul_left d n) (Nat.dvd_of_mod_eq_zero h3)
    have hcop : Nat.Coprime d u := by
      have k1 : Nat.gcd d u ∣ n := by
        have k2 : Nat.gcd d u ∣ d + n := by rw [h]; exact Nat.dvd_trans (Nat.gcd_dvd_right d u) (Nat.dvd_mul_right u b)
        exact (Nat.dvd_add_right (Nat.gcd_dvd_left d u)).mp k2
      have k3 : Nat.gcd d u ∣ Nat.gcd u n := Nat.dvd_gcd (Nat.gcd_dvd_right d u) k1
      rw [hg] at k3
      exact Nat.dvd_one.mp k3
    exact Nat.mod_eq_zero_of_dvd (Nat.Coprime.dvd_of_dvd_mul_left hcop h4)
theorem no_three {u n a b d : Nat} (h1 : u * b < d + n) (h2 : d + n < u * (b + 1)) : ¬ isT u n a d := by
  intro hP
  obtain ⟨x, hx⟩ := Nat.dvd_of_mod_eq_zero hP.2.2.2
  rw [hx] at h1 h2
  have h3 := Nat.lt_of_mul_lt_mul_left h1
  have h4 := Nat.lt_of_mul_lt_mul_left h2
  omega
theorem thr132 {Q : Int → Prop} {mu md : Int → Int} {K : Int → Int → Int → Int → Prop} {p q u n a c : Nat} (hu : 1 ≤ u) (hun : u < n) (hg : Nat.gcd u n = 1) (hn : n ≤ 270000) (ha : a ≤ 1000) (hc : c ≤ 1000000)
    (h : K p q ((c + (TBn u n a n).length : Nat) : Int) ((a + 1 : Nat) : Int)) :
    ∀ (k b : Nat), 2 * n ≤ b + k → n < u * b → u * b < 1000000000 → a < b → b ≤ 2000000 → wp_X8_threes_132 Q mu md K (k + 1) p q ((c + (TBn u n a (min n (u * b - n))).length : Nat) : Int) a u n b := by
  intro k
  induction k with
  | zero =>
    intro b hk h1 h2 h3 h4
    rw [wp_X8_threes_132]
    have h5 : b ≤ u * b := Nat.le_mul_of_pos_left b hu
    have c1 : (u : Int) * (b : Int) = ((u * b : Nat) : Int) := rfl
    rw [c1]
    have e : min n (u * b - n) = n := by omega
    rw [e]
    generalize u * b = z at *
    refine ⟨⟨by omega, by omega⟩, ⟨by omega, by omega⟩, fun _ => ⟨⟨by omega, by omega⟩, fun x hx => ?_⟩, fun w => absurd w (by omega)⟩
    have ex : x = ((a + 1 : Nat) : Int) := by omega
    rw [ex]
    exact h
  | succ k ih =>
    intro b hk h1 h2 h3 h4
    rw [wp_X8_threes_132]
    unfold wp_X8_threes_173
    have h5 : b ≤ u * b := Nat.le_mul_of_pos_left b hu
    have c1 : (u : Int) * (b : Int) = ((u * b : Nat) : Int) := rfl
    have c2 : (n : Int) * (b : Int) = ((n * b : Nat) : Int) := rfl
    rw [c1, c2]
    refine ⟨⟨by omega, by omega⟩, ⟨by omega, by omega⟩, fun w => ⟨⟨by omega, by omega⟩, fun x hx => ?_⟩, fun w => ?_⟩
    · have e : min n (u * b - n) = n := by omega
      rw [e]
      have ex : x = ((a + 1 : Nat) : Int) := by omega
      rw [ex]
      exact h
    · have hnb : n * b ≤ 270000 * 2000000 := Nat.mul_le_mul hn h4
      have e1 : min n (u * b - n) = u * b - n := by omega
      have hPE := three_eq (u := u) (n := n) (a := a) (b := b) (d := u * b - n) hu hg (by omega) (by omega) h3
      have e2 : u * (b + 1) = u * b + u := Nat.mul_succ u b
      have e3 : TBn u n a (min n (u * (b + 1) - n)) = TBn u n a (u * b - n) ++ (if isT u n a (u * b - n) then [u * b - n] else []) := by
        rw [← TBn_s]
        have h6 : min n (u * (b + 1) - n) = (u * b - n + 1) + (min n (u * (b + 1) - n) - (u * b - n + 1)) := by omega
        rw [h6]
        exact TBn_skip _ (fun d d1 d2 => no_three (b := b) (by omega) (by omega))
      have nx := ih (b + 1)
      rw [e3, e2, List.length_append] at nx
      rw [e1]
      have hb : (TBn u n a (u * b - n)).length ≤ 1100 := TBn_1100 (by omega) hn (by omega)
      have e4 : ((u * b : Nat) : Int) - (n : Int) = ((u * b - n : Nat) : Int) := by omega
      rw [e4, nm_tmod]
      generalize (TBn u n a (u * b - n)).length = C at *
      refine ⟨⟨by omega, by omega⟩, ⟨by omega, by omega⟩, ⟨by omega, by omega⟩, by omega, fun y => ⟨⟨by omega, by omega⟩, fun x hx => ⟨⟨by omega, by omega⟩, fun v hv => ?_⟩⟩, fun y => ⟨⟨by omega, by omega⟩, fun x hx => ⟨⟨by omega, by omega⟩, fun v hv => ?_⟩⟩⟩
      · have hno : ¬ isT u n a (u * b - n) := fun z => y (by rw [hPE.mpr z]; rfl)
        rw [if_neg hno] at nx
        have ex : x = ((c + (C + ([] : List Nat).length) : Nat) : Int) := by rw [List.length_nil]; omega
        have ev : v = ((b + 1 : Nat) : Int) := by omega
        rw [ex, ev]
        exact nx (by omega) (by omega) (by omega) (by omega) (by omega)
      · have hyes : isT u n a (u * b - n) := hPE.mp (Int.ofNat.inj y)
        rw [if_pos hyes] at nx
        have ex : x = ((c + (C + [u * b - n].length) : Nat) : Int) := by rw [List.length_singleton]; omega
        have ev : v = ((b + 1 : Nat) : Int) := by omega
        rw [ex, ev]
        exact nx (by omega) (by omega) (by omega) (by omega) (by omega)
theorem thr130 {Q : Int → Prop} {mu md : Int → Int} {K : Int → Int → Int → Int → Prop} {p q u n a c b : Nat} (hu : 1 ≤ u) (hun : u < n) (hg : Nat.gcd u n = 1) (hn : n ≤ 270000) (ha : a ≤ 1000) (hc : c ≤ 1000000) (hb : b = max (n / u + 1) (a + 1))
    (h : K p q ((c + (TBn u n a n).length : Nat) : Int) ((a + 1 : Nat) : Int)) : wp_X8_threes_130 Q mu md K p q c a u n b := by
  have h0 : n < u * (n / u + 1) := by
    have := Nat.div_add_mod n u
    have h2 := Nat.mod_lt n (show 0 < u by omega)
    rw [Nat.mul_succ]
    omega
  have hdl := Nat.div_le_self n u
  have h1 : n < u * b := Nat.lt_of_lt_of_le h0 (Nat.mul_le_mul_left u (by omega))
  have hub : u * b < 1000000000 := by
    have k1 : u * (n / u + 1) ≤ n + u := by
      have := Nat.mul_div_le n u
      rw [Nat.mul_succ]
      omega
    have k2 : u * (a + 1) ≤ 270000 * 1001 := Nat.mul_le_mul (by omega) (by omega)
    rcases Nat.le_total (n / u + 1) (a + 1) with w | w
    · have : b = a + 1 := by omega
      rw [this]; omega
    · have : b = n / u + 1 := by omega
      rw [this]; omega
  refine ⟨2 * n + 1, ?_⟩
  have go := thr132 (Q := Q) (mu := mu) (md := md) (p := p) (q := q) hu hun hg hn ha hc h (2 * n) b (by omega) h1 hub (by omega) (by omega)
  have e0 : TBn u n a (min n (u * b - n)) = [] := by
    have := TBn_skip (u := u) (n := n) (a := a) (k := 0) (min n (u * b - n)) (fun d d1 d2 hT => by
      obtain ⟨x, hx⟩ := Nat.dvd_of_mod_eq_zero hT.2.2.2
      have k1 : u * x < u * b := by omega
      have k2 := Nat.lt_of_mul_lt_mul_left k1
      have k3 := hT.2.2.1
      rw [hx] at k3
      have k4 := Nat.lt_of_mul_lt_mul_left k3
      have k5 : n < u * x := by have := hT.1; omega
      have k6 : n / u < x := by
        rw [Nat.div_lt_iff_lt_mul (by omega), Nat.mul_comm]
        exact k5
      omega)
    rw [Nat.zero_add] at this
    rw [this]
    rfl
  rw [e0] at go
  exact go
/-- the sum over a -/
def cA (p q a : Nat) : Nat := (TBn ((p * a - q) / Nat.gcd (p * a - q) (q * a)) (q * a / Nat.gcd (p * a - q) (q * a)) a (q * a / Nat.gcd (p * a - q) (q * a))).length
def T3 (p q : Nat) : Nat → Nat
  | 0 => 0
  | k + 1 => T3 p q k + cA p q (q / p + 1 + k)
/-- what one a gives: numbers in lowest terms -/
theorem low3 {p q a : Nat} (hp : 1 ≤ p) (hpq : p < q) (hq : q ≤ 300) (h1 : q < p * a) (h2 : p * a < 3 * q) :
    let g := Nat.gcd (p * a - q) (q * a)
    0 < g ∧ g ≤ q * a ∧ 1 ≤ (p * a - q) / g ∧ (p * a - q) / g < q * a / g ∧ Nat.gcd ((p * a - q) / g) (q * a / g) = 1 ∧ q * a / g ≤ 270000 ∧ a ≤ 900 ∧ q * a ≤ 270000 ∧ (p * a - q) / g ≤ 600 := by
  intro g
  have ha : a ≤ p * a := Nat.le_mul_of_pos_left a hp
  have hqa : q * a ≤ 300 * 900 := Nat.mul_le_mul hq (by omega)
  have ha0 : 0 < a := by
    rcases Nat.eq_zero_or_pos a with z | z
    · subst z; omega
    · exact z
  have hqa0 : 0 < q * a := Nat.mul_pos (by omega) ha0
  have hg0 : 0 < g := Nat.gcd_pos_of_pos_right _ hqa0
  have hgl : g ≤ q * a := Nat.gcd_le_right _ hqa0
  have d1 : g ∣ p * a - q := Nat.gcd_dvd_left _ _
  have d2 : g ∣ q * a := Nat.gcd_dvd_right _ _
  have hlt : p * a - q < q * a := by
    have : p * a < q * a := Nat.mul_lt_mul_of_pos_right hpq ha0
    omega
  refine ⟨hg0, hgl, ?_, ?_, ?_, Nat.le_trans (Nat.div_le_self _ _) hqa, by omega, hqa, Nat.le_trans (Nat.div_le_self _ _) (by omega)⟩
  · exact (Nat.le_div_iff_mul_le hg0).mpr (by rw [Nat.one_mul]; exact Nat.le_of_dvd (by omega) d1)
  · rw [Nat.div_lt_iff_lt_mul hg0, Nat.div_mul_cancel d2]; exact hlt
  · show Nat.gcd ((p * a - q) / g) (q * a / g) = 1
    rw [Nat.gcd_div d1 d2]
    exact Nat.div_self hg0
theorem cA_le {p q a : Nat} (hp : 1 ≤ p) (hpq : p < q) (hq : q ≤ 300) (h1 : q < p * a) (h2 : p * a < 3 * q) : cA p q a ≤ 1100 := by
  obtain ⟨a1, a2, a3, a4, a5, a6, a7, a8, a9⟩ := low3 hp hpq hq h1 h2
  exact TBn_1100 (by omega) a6 (Nat.le_refl _)
