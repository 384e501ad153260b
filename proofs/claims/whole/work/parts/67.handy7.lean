/-! ===== handy, the class's side (Stewart) ===== -/
def isDs (l : List Nat) (n : Nat) : Prop := l.Nodup ∧ ∀ d, d ∈ l ↔ d ∣ n
def Rp (n x : Nat) : Prop := ∃ l : List Nat, l.Nodup ∧ (∀ d ∈ l, d ∣ n) ∧ l.sum = x
theorem sum_erase : ∀ (l : List Nat) (a : Nat), a ∈ l → a + (l.erase a).sum = l.sum := by
  intro l
  induction l with
  | nil => intro a h; simp at h
  | cons b t ih =>
    intro a h
    by_cases e : b = a
    · subst e; rw [List.erase_cons_head, List.sum_cons]
    · rw [List.erase_cons_tail (by simpa using e), List.sum_cons, List.sum_cons]
      have := ih a (by rcases List.mem_cons.mp h with w | w; (exact absurd w.symm e); exact w)
      omega
theorem sum_sub : ∀ (l1 l2 : List Nat), l1.Nodup → (∀ x ∈ l1, x ∈ l2) → l1.sum ≤ l2.sum := by
  intro l1
  induction l1 with
  | nil => intro l2 _ _; exact Nat.zero_le _
  | cons a t ih =>
    intro l2 hn hs
    have ha : a ∈ l2 := hs a List.mem_cons_self
    obtain ⟨h1, h2⟩ := List.nodup_cons.mp hn
    have h3 := ih (l2.erase a) h2 (fun x hx => by
      have hne : x ≠ a := fun e => h1 (e ▸ hx)
      exact (List.mem_erase_of_ne hne).mpr (hs x (List.mem_cons_of_mem _ hx)))
    have h4 := sum_erase l2 a ha
    rw [List.sum_cons]
    omega
/-- the sum of divisors up to k, as a list -/
def dvL (n : Nat) : Nat → List Nat
  | 0 => []
  | d + 1 => if n % (d + 1) = 0 then (d + 1) :: dvL n d else dvL n d
theorem dvL_ok (n : Nat) : ∀ k, (dvL n k).sum = sdv n k ∧ (dvL n k).Nodup ∧ ∀ d, d ∈ dvL n k ↔ 1 ≤ d ∧ d ≤ k ∧ n % d = 0 := by
  intro k
  induction k with
  | zero => exact ⟨rfl, List.nodup_nil, fun d => ⟨fun h => absurd h (by simp [dvL]), fun h => by omega⟩⟩
  | succ k ih =>
    obtain ⟨h1, h2, h3⟩ := ih
    rw [dvL, sdv]
    by_cases e : n % (k + 1) = 0
    · rw [if_pos e, if_pos e]
      refine ⟨by rw [List.sum_cons, h1]; omega, List.nodup_cons.mpr ⟨fun w => by have := (h3 _).mp w; omega, h2⟩, fun d => ?_⟩
      rw [List.mem_cons, h3]
      constructor
      · rintro (w | w)
        · subst w; exact ⟨by omega, by omega, e⟩
        · exact ⟨w.1, by omega, w.2.2⟩
      · rintro ⟨a, b, c⟩
        by_cases w : d = k + 1
        · exact Or.inl w
        · exact Or.inr ⟨a, by omega, c⟩
    · rw [if_neg e, if_neg e]
      refine ⟨by rw [h1]; omega, h2, fun d => ?_⟩
      rw [h3]
      constructor
      · rintro w; exact ⟨w.1, by omega, w.2.2⟩
      · rintro ⟨a, b, c⟩
        by_cases w : d = k + 1
        · subst w; exact absurd c e
        · exact ⟨a, by omega, c⟩
theorem hAll_iff (n : Nat) : ∀ k, hAll n k = true ↔ ∀ d, 1 ≤ d → d ≤ k → n % d = 0 → d ≤ sdv n (d - 1) + 1 := by
  intro k
  induction k with
  | zero => exact ⟨fun _ d h1 h2 => by omega, fun _ => rfl⟩
  | succ k ih =>
    rw [hAll, Bool.and_eq_true, Bool.or_eq_true, decide_eq_true_iff, decide_eq_true_iff, ih]
    constructor
    · rintro ⟨a, b⟩ d h1 h2 h3
      by_cases w : d = k + 1
      · subst w
        rw [Nat.add_sub_cancel]
        rcases b with b | b
        · exact absurd h3 b
        · exact b
      · exact a d h1 (by omega) h3
    · intro h
      refine ⟨fun d h1 h2 h3 => h d h1 (by omega) h3, ?_⟩
      by_cases w : n % (k + 1) = 0
      · have := h (k + 1) (by omega) (Nat.le_refl _) w
        rw [Nat.add_sub_cancel] at this
        exact Or.inr this
      · exact Or.inl w
/-- every number up to the sum of the divisors is made of some: then each divisor is near enough -/
theorem rp_hAll {n s : Nat} (hn : 1 ≤ n) {l : List Nat} (hl : isDs l n) (hs : l.sum = s) (h : ∀ x, x ≤ s → Rp n x) : hAll n n = true := by
  rw [hAll_iff]
  intro d h1 h2 h3
  rcases Nat.lt_or_ge (sdv n (d - 1) + 1) d with w | w
  · exfalso
    have hd : d ∈ l := (hl.2 d).mpr (Nat.dvd_of_mod_eq_zero h3)
    have h4 := sum_erase l d hd
    obtain ⟨l', n1, n2, n3⟩ := h (d - 1) (by omega)
    obtain ⟨k1, k2, k3⟩ := dvL_ok n (d - 1)
    have h5 : l'.sum ≤ (dvL n (d - 1)).sum := sum_sub _ _ n1 (fun x hx => by
      refine (k3 x).mpr ⟨?_, ?_, Nat.mod_eq_zero_of_dvd (n2 x hx)⟩
      · rcases Nat.eq_zero_or_pos x with z | z
        · subst z; have := Nat.eq_zero_of_zero_dvd (n2 0 hx); omega
        · exact z
      · have := sum_erase l' x hx; omega)
    omega
  · exact w
/-- a prime too great: then it isn't -/
theorem not_hAll {n m P s : Nat} (hn : 1 ≤ n) (hP : 2 ≤ P) (hd : P ∣ n) {l : List Nat} (hl : isDs l m) (hs : l.sum = s) (hlt : s + 1 < P) (hm : ∀ d, d ∣ n → d < P → d ∣ m) : ¬ hAll n n = true := by
  rw [hAll_iff]
  intro h
  have h1 := h P (by omega) (Nat.le_of_dvd hn hd) (Nat.mod_eq_zero_of_dvd hd)
  obtain ⟨k1, k2, k3⟩ := dvL_ok n (P - 1)
  have h2 : (dvL n (P - 1)).sum ≤ l.sum := sum_sub _ _ k2 (fun x hx => by
    obtain ⟨a, b, c⟩ := (k3 x).mp hx
    exact (hl.2 x).mpr (hm x (Nat.dvd_of_mod_eq_zero c) (by omega)))
  omega
def geo (p : Nat) : Nat → Nat
  | 0 => 1
  | k + 1 => geo p k * p + 1
theorem geo_eq {p : Nat} (hp : 1 ≤ p) : ∀ k, (p - 1) * geo p k + 1 = p ^ (k + 1) := by
  intro k
  induction k with
  | zero => rw [geo, Nat.mul_one, Nat.zero_add, Nat.pow_one]; omega
  | succ k ih =>
    rw [geo, Nat.pow_succ p (k + 1), ← ih, Nat.mul_add, Nat.add_mul, Nat.mul_one, Nat.one_mul]
    have : (p - 1) * (geo p k * p) = (p - 1) * geo p k * p := by grind
    omega
theorem geo_add {p : Nat} : ∀ k, geo p (k + 1) = geo p k + p ^ (k + 1) := by
  intro k
  induction k with
  | zero =>
    show 1 * p + 1 = 1 + p ^ 1
    rw [Nat.pow_one]; omega
  | succ k ih =>
    rw [geo, Nat.pow_succ p (k + 1)]
    have e : geo p (k + 1) = geo p k * p + 1 := rfl
    rw [ih, Nat.add_mul] at *
    omega
theorem geo_lt {p : Nat} (hp : 2 ≤ p) : ∀ k, geo p k < 2 * p ^ k := by
  intro k
  induction k with
  | zero => rw [geo, Nat.pow_zero]; omega
  | succ k ih =>
    rw [geo, Nat.pow_succ]
    have h1 : (geo p k + 1) * p ≤ 2 * p ^ k * p := Nat.mul_le_mul_right p (by omega)
    rw [Nat.add_mul] at h1
    have e : 2 * (p ^ k * p) = 2 * p ^ k * p := by grind
    omega
theorem isDs_s {P M i : Nat} {A S : List Nat} (hP : isPr P) (hM : ¬ P ∣ M) (hA : isDs A (P ^ i * M)) (hS : isDs S M) : isDs (A ++ S.map (fun x => P ^ (i + 1) * x)) (P ^ (i + 1) * M) := by
  have hP2 := hP.1
  have hpp : 0 < P ^ (i + 1) := Nat.pow_pos (by omega)
  have hmem : ∀ d, d ∈ S.map (fun x => P ^ (i + 1) * x) ↔ ∃ x, d = P ^ (i + 1) * x ∧ x ∣ M := by
    intro d
    rw [List.mem_map]
    constructor
    · rintro ⟨x, hx, rfl⟩; exact ⟨x, rfl, (hS.2 x).mp hx⟩
    · rintro ⟨x, rfl, hx⟩; exact ⟨x, (hS.2 x).mpr hx, rfl⟩
  refine ⟨List.nodup_append.mpr ⟨hA.1, ?_, ?_⟩, fun d => ?_⟩
  · refine List.pairwise_map.mpr (List.Pairwise.imp ?_ hS.1)
    intro a b hab e
    exact hab (Nat.eq_of_mul_eq_mul_left hpp e)
  · intro a ha b hb e
    subst e
    have hd := (hA.2 a).mp ha
    obtain ⟨x, rfl, hx⟩ := (hmem a).mp hb
    apply hM
    have e1 : P ^ (i + 1) * x = P ^ i * (P * x) := by rw [Nat.pow_succ]; grind
    rw [e1] at hd
    have h5 := Nat.dvd_of_mul_dvd_mul_left (Nat.pow_pos (by omega)) hd
    exact Nat.dvd_trans (Nat.dvd_mul_right P x) h5
  · rw [List.mem_append, hA.2, hmem]
    constructor
    · rintro (b | ⟨x, rfl, hx⟩)
      · refine Nat.dvd_trans b ?_
        rw [Nat.pow_succ, Nat.mul_assoc]
        exact Nat.mul_dvd_mul_left _ (Nat.dvd_mul_left M P)
      · exact Nat.mul_dvd_mul_left _ hx
    · intro b
      by_cases hd : P ^ (i + 1) ∣ d
      · obtain ⟨x, rfl⟩ := hd
        exact Or.inr ⟨x, rfl, Nat.dvd_of_mul_dvd_mul_left hpp b⟩
      · exact Or.inl (pr_drop hP i d M b hd)
theorem sum_map_mul : ∀ (l : List Nat) (c : Nat), (l.map (fun x => c * x)).sum = c * l.sum := by
  intro l c
  induction l with
  | nil => rfl
  | cons a t ih => rw [List.map_cons, List.sum_cons, List.sum_cons, ih, Nat.mul_add]
/-- what is known of the primes passed: all divisors, their sum, and that they make every number up to it -/
def hOk (m s : Nat) : Prop := (∃ l, isDs l m ∧ l.sum = s) ∧ ∀ x, x ≤ s → Rp m x
theorem hOk_pow {P m s : Nat} (hP : isPr P) (hm : ¬ P ∣ m) (hs : P ≤ s + 1) (h : hOk m s) : ∀ k, hOk (P ^ k * m) (s * geo P k) := by
  obtain ⟨⟨S, hS, hSs⟩, hR⟩ := h
  have hP2 := hP.1
  intro k
  induction k with
  | zero =>
    rw [Nat.pow_zero, Nat.one_mul, geo, Nat.mul_one]
    exact ⟨⟨S, hS, hSs⟩, hR⟩
  | succ k ih =>
    obtain ⟨⟨A, hA, hAs⟩, hRk⟩ := ih
    have eg : s * geo P (k + 1) = s * geo P k + P ^ (k + 1) * s := by rw [geo_add, Nat.mul_add, Nat.mul_comm s (P ^ (k + 1))]
    refine ⟨⟨_, isDs_s hP hm hA hS, ?_⟩, fun x hx => ?_⟩
    · rw [List.sum_append, sum_map_mul, hAs, hSs, eg]
    · have hpp : 0 < P ^ (k + 1) := Nat.pow_pos (by omega)
      have comb : ∀ y z, y ≤ s → z ≤ s * geo P k → x = P ^ (k + 1) * y + z → Rp (P ^ (k + 1) * m) x := by
        intro y z hy hz hxe
        obtain ⟨l1, a1, a2, a3⟩ := hR y hy
        obtain ⟨l2, b1, b2, b3⟩ := hRk z hz
        refine ⟨l2 ++ l1.map (fun x => P ^ (k + 1) * x), List.nodup_append.mpr ⟨b1, ?_, ?_⟩, ?_, ?_⟩
        · refine List.pairwise_map.mpr (List.Pairwise.imp ?_ a1)
          intro a b hab e
          exact hab (Nat.eq_of_mul_eq_mul_left hpp e)
        · intro a ha b hb e
          subst e
          obtain ⟨c, hc, e⟩ := List.mem_map.mp hb
          have hd := b2 a ha
          have e2 : P ^ (k + 1) * c = a := e
          have e1 : a = P ^ k * (P * c) := by rw [← e2, Nat.pow_succ]; grind
          rw [e1] at hd
          exact hm (Nat.dvd_trans (Nat.dvd_mul_right P c) (Nat.dvd_of_mul_dvd_mul_left (Nat.pow_pos (by omega)) hd))
        · intro d hd
          rcases List.mem_append.mp hd with w | w
          · refine Nat.dvd_trans (b2 d w) ?_
            rw [Nat.pow_succ, Nat.mul_assoc]
            exact Nat.mul_dvd_mul_left _ (Nat.dvd_mul_left m P)
          · obtain ⟨c, hc, e⟩ := List.mem_map.mp w
            have e2 : P ^ (k + 1) * c = d := e
            rw [← e2]
            exact Nat.mul_dvd_mul_left _ (a2 c hc)
        · rw [List.sum_append, sum_map_mul, a3, b3, hxe]; omega
      have hge := geo_eq (p := P) (by omega) k
      have hle : (P - 1) * geo P k ≤ s * geo P k := Nat.mul_le_mul_right _ (by omega)
      rw [eg] at hx
      have hdm := Nat.div_add_mod x (P ^ (k + 1))
      have hml := Nat.mod_lt x hpp
      rcases Nat.le_total s (x / P ^ (k + 1)) with w | w
      · have h1 : P ^ (k + 1) * s ≤ P ^ (k + 1) * (x / P ^ (k + 1)) := Nat.mul_le_mul_left _ w
        have h2 := Nat.mul_div_le x (P ^ (k + 1))
        have h3 : P ^ (k + 1) * s ≤ x := Nat.le_trans h1 h2
        exact comb s (x - P ^ (k + 1) * s) (Nat.le_refl _) (by omega) (by omega)
      · exact comb (x / P ^ (k + 1)) (x % P ^ (k + 1)) w (by omega) hdm.symm
theorem hOk_1 : hOk 1 1 := by
  refine ⟨⟨[1], ⟨by simp, fun d => by rw [List.mem_singleton, Nat.dvd_one]⟩, rfl⟩, fun x hx => ?_⟩
  rcases Nat.eq_zero_or_pos x with z | z
  · subst z; exact ⟨[], List.nodup_nil, fun d hd => absurd hd (by simp), rfl⟩
  · have : x = 1 := by omega
    subst this
    exact ⟨[1], by simp, fun d hd => by rw [List.mem_singleton.mp hd]; exact Nat.dvd_refl 1, rfl⟩
theorem hOk_le {m s : Nat} (hm : 1 ≤ m) (h : hOk m s) : s ≤ m * m := by
  obtain ⟨⟨l, hl, hs⟩, _⟩ := h
  have h1 : l.length ≤ m := by
    have := nodup_le l ((List.range m).map (fun x => x + 1)) hl.1 (fun x hx => by
      have hd := (hl.2 x).mp hx
      have h2 := Nat.le_of_dvd hm hd
      have h3 : 1 ≤ x := by
        rcases Nat.eq_zero_or_pos x with z | z
        · subst z; have := Nat.eq_zero_of_zero_dvd hd; omega
        · exact z
      exact List.mem_map.mpr ⟨x - 1, List.mem_range.mpr (by omega), by omega⟩)
    rw [List.length_map, List.length_range] at this
    exact this
  have h2 : ∀ (l : List Nat), (∀ x ∈ l, x ≤ m) → l.sum ≤ l.length * m := by
    intro l
    induction l with
    | nil => intro _; simp
    | cons a t ih =>
      intro h
      rw [List.sum_cons, List.length_cons, Nat.succ_mul]
      have := ih (fun x hx => h x (List.mem_cons_of_mem _ hx))
      have := h a List.mem_cons_self
      omega
  have h3 := h2 l (fun x hx => Nat.le_of_dvd hm ((hl.2 x).mp hx))
  have h4 : l.length * m ≤ m * m := Nat.mul_le_mul_right m h1
  omega
