/-! ===== how many divisors a number may have ===== -/
def HasD (m B : Nat) : Prop := ∃ L : List Nat, L.length ≤ B ∧ ∀ d, d ∣ m → d ∈ L
def isPr (p : Nat) : Prop := 2 ≤ p ∧ ∀ d, d ∣ p → d = 1 ∨ d = p
theorem nodup_le : ∀ (l1 l2 : List Nat), l1.Nodup → (∀ x ∈ l1, x ∈ l2) → l1.length ≤ l2.length := by
  intro l1
  induction l1 with
  | nil => intro l2 _ _; exact Nat.zero_le _
  | cons a t ih =>
    intro l2 hn hs
    have ha : a ∈ l2 := hs a List.mem_cons_self
    obtain ⟨h1, h2⟩ := List.nodup_cons.mp hn
    have h3 := ih (l2.erase a) h2 (fun x hx => by
      have hne : x ≠ a := fun e => h1 (e ▸ hx)
      exact (List.mem_erase_of_ne hne).mpr (hs x (List.mem_cons_of_mem _ hx)))
    rw [List.length_erase_of_mem ha] at h3
    have := List.length_pos_of_mem ha
    rw [List.length_cons]
    omega
theorem pr_cop {p d : Nat} (hp : isPr p) (h : ¬ p ∣ d) : Nat.Coprime d p := by
  rcases hp.2 _ (Nat.gcd_dvd_right d p) with e | e
  · exact e
  · exfalso
    apply h
    have := Nat.gcd_dvd_left d p
    rw [e] at this
    exact this
theorem pr_drop {p : Nat} (hp : isPr p) : ∀ (k d m : Nat), d ∣ p ^ (k + 1) * m → ¬ p ^ (k + 1) ∣ d → d ∣ p ^ k * m := by
  intro k
  induction k with
  | zero =>
    intro d m h1 h2
    rw [Nat.zero_add, Nat.pow_one] at h1 h2
    rw [Nat.pow_zero, Nat.one_mul]
    exact Nat.Coprime.dvd_of_dvd_mul_left (pr_cop hp h2) h1
  | succ k ih =>
    intro d m h1 h2
    by_cases hd : p ∣ d
    · obtain ⟨d1, rfl⟩ := hd
      have hp0 : 0 < p := by have := hp.1; omega
      have e1 : p ^ (k + 1 + 1) * m = p * (p ^ (k + 1) * m) := by rw [Nat.pow_succ]; grind
      rw [e1] at h1
      have h3 := Nat.dvd_of_mul_dvd_mul_left hp0 h1
      have h4 : ¬ p ^ (k + 1) ∣ d1 := by
        intro h5
        apply h2
        rw [Nat.pow_succ, Nat.mul_comm (p ^ (k + 1)) p]
        exact Nat.mul_dvd_mul_left p h5
      have h6 := ih d1 m h3 h4
      have e2 : p ^ (k + 1) * m = p * (p ^ k * m) := by rw [Nat.pow_succ]; grind
      rw [e2]
      exact Nat.mul_dvd_mul_left p h6
    · have hc : Nat.Coprime d (p ^ (k + 1 + 1)) := Nat.Coprime.pow_right _ (pr_cop hp hd)
      exact Nat.dvd_trans (Nat.Coprime.dvd_of_dvd_mul_left hc h1) (Nat.dvd_mul_left m _)
theorem HasD_mono {m B C : Nat} (h : HasD m B) (hBC : B ≤ C) : HasD m C := by
  obtain ⟨L, h1, h2⟩ := h
  exact ⟨L, Nat.le_trans h1 hBC, h2⟩
theorem HasD_1 : HasD 1 1 := ⟨[1], Nat.le_refl _, fun d hd => List.mem_singleton.mpr (Nat.dvd_one.mp hd)⟩
theorem HasD_pow {p m B : Nat} (hp : isPr p) (h : HasD m B) : ∀ k, HasD (p ^ k * m) ((k + 1) * B) := by
  obtain ⟨L, hL, hm⟩ := h
  intro k
  induction k with
  | zero =>
    rw [Nat.pow_zero, Nat.one_mul]
    exact ⟨L, by omega, hm⟩
  | succ k ih =>
    obtain ⟨Lk, hk, hmk⟩ := ih
    refine ⟨Lk ++ L.map (fun x => p ^ (k + 1) * x), ?_, fun d hd => ?_⟩
    · rw [List.length_append, List.length_map]
      have : (k + 1 + 1) * B = (k + 1) * B + B := Nat.succ_mul _ _
      omega
    · by_cases h1 : p ^ (k + 1) ∣ d
      · obtain ⟨x, rfl⟩ := h1
        have hpp : 0 < p ^ (k + 1) := Nat.pow_pos (by have := hp.1; omega)
        exact List.mem_append_right _ (List.mem_map.mpr ⟨x, hm x (Nat.dvd_of_mul_dvd_mul_left hpp hd), rfl⟩)
      · exact List.mem_append_left _ (hmk d (pr_drop hp k d m hd h1))
theorem pr_ex : ∀ n : Nat, 2 ≤ n → ∃ p, isPr p ∧ p ∣ n := by
  intro n
  induction n using Nat.strongRecOn with
  | ind n ih =>
    intro hn
    by_cases h : isPr n
    · exact ⟨n, h, Nat.dvd_refl n⟩
    · have : ∃ d, d ∣ n ∧ d ≠ 1 ∧ d ≠ n := Classical.byContradiction (fun hne => h ⟨hn, fun d hd => by
        rcases Nat.decEq d 1 with a | a
        · rcases Nat.decEq d n with b | b
          · exact absurd ⟨d, hd, a, b⟩ hne
          · exact Or.inr b
        · exact Or.inl a⟩)
      obtain ⟨d, h1, h2, h3⟩ := this
      have h4 := Nat.le_of_dvd (by omega) h1
      have h5 : d ≠ 0 := fun e => by subst e; have := Nat.eq_zero_of_zero_dvd h1; omega
      obtain ⟨p, hp, hpd⟩ := ih d (by omega) (by omega)
      exact ⟨p, hp, Nat.dvd_trans hpd h1⟩
def EB (c k : Nat) : Nat → Nat → Nat
  | 0, _ => 1
  | f + 1, N => if N < k then 1 else (c + 1) * EB c k f (N / k)
theorem EB_pos {c k : Nat} : ∀ f N, 1 ≤ EB c k f N := by
  intro f
  induction f with
  | zero => intro N; rw [EB]; omega
  | succ f ih =>
    intro N
    rw [EB]
    split
    · omega
    · exact Nat.mul_pos (by omega) (ih _)
theorem EB_ok {c k : Nat} (hk : 0 < k) : ∀ (f N n : Nat), N < k ^ (f + 1) → 1 ≤ n → n ≤ N → (∀ p, isPr p → p ∣ n → k ≤ p) → HasD (n ^ c) (EB c k f N) := by
  intro f
  induction f with
  | zero =>
    intro N n hN h1 h2 h3
    rw [Nat.zero_add, Nat.pow_one] at hN
    have : n = 1 := by
      rcases Nat.lt_or_ge n 2 with z | z
      · omega
      · obtain ⟨p, hp, hpd⟩ := pr_ex n z
        have := h3 p hp hpd
        have := Nat.le_of_dvd (by omega) hpd
        omega
    subst this
    rw [Nat.one_pow, EB]
    exact HasD_1
  | succ f ih =>
    intro N n hN h1 h2 h3
    rcases Nat.lt_or_ge n 2 with z | z
    · have : n = 1 := by omega
      subst this
      rw [Nat.one_pow]
      exact HasD_mono HasD_1 (EB_pos _ _)
    · obtain ⟨p, hp, m, rfl⟩ := pr_ex n z
      have h4 := h3 p hp (Nat.dvd_mul_right p m)
      have hm : 1 ≤ m := by
        rcases Nat.eq_zero_or_pos m with y | y
        · subst y; omega
        · exact y
      have h5 : k * m ≤ p * m := Nat.mul_le_mul_right m h4
      have h6 : k ≤ k * m := Nat.le_mul_of_pos_right _ hm
      rw [EB, if_neg (by omega)]
      have h7 : m ≤ N / k := (Nat.le_div_iff_mul_le hk).mpr (by rw [Nat.mul_comm]; omega)
      have h8 : N / k < k ^ (f + 1) := by
        rw [Nat.div_lt_iff_lt_mul hk, ← Nat.pow_succ]
        exact hN
      rw [Nat.mul_pow]
      exact HasD_pow hp (ih (N / k) m h8 hm h7 (fun r hr hd => h3 r hr (Nat.dvd_trans hd (Nat.dvd_mul_left m p)))) c
def MDp (c p : Nat) (g : Nat → Nat) : Nat → Nat → Nat → Nat
  | 0, e, N => (e * c + 1) * g N
  | f + 1, e, N => max ((e * c + 1) * g N) (if N / p = 0 then 0 else MDp c p g f (e + 1) (N / p))
def MD (c : Nat) : List Nat → Nat → Nat
  | [], N => EB c 17 5 N
  | p :: ps, N => MDp c p (MD c ps) 20 0 N
def prIn (ps : List Nat) (n : Nat) : Prop := ∀ r, isPr r → r ∣ n → r ∈ ps ∨ 17 ≤ r
theorem MDp_ok {c p : Nat} {g : Nat → Nat} {ps : List Nat} {T : Nat} (hp : isPr p) (hg : ∀ N n, N ≤ T → 1 ≤ n → n ≤ N → prIn ps n → HasD (n ^ c) (g N)) :
    ∀ (f e N n : Nat), N ≤ T → N < p ^ (f + 1) → 1 ≤ n → n ≤ N → prIn (p :: ps) n → HasD ((p ^ e * n) ^ c) (MDp c p g f e N) := by
  have hp2 := hp.1
  intro f
  have nod : ∀ (e N n : Nat), N ≤ T → 1 ≤ n → n ≤ N → prIn (p :: ps) n → ¬ p ∣ n → HasD ((p ^ e * n) ^ c) ((e * c + 1) * g N) := by
    intro e N n hT h1 h2 h3 hd
    rw [Nat.mul_pow, ← Nat.pow_mul]
    refine HasD_pow hp (hg N n hT h1 h2 (fun r hr hrd => ?_)) (e * c)
    rcases h3 r hr hrd with w | w
    · rcases List.mem_cons.mp w with w | w
      · exact absurd (w ▸ hrd) hd
      · exact Or.inl w
    · exact Or.inr w
  induction f with
  | zero =>
    intro e N n hT hN h1 h2 h3
    rw [MDp]
    refine nod e N n hT h1 h2 h3 (fun hd => ?_)
    have := Nat.le_of_dvd (by omega) hd
    rw [Nat.zero_add, Nat.pow_one] at hN
    omega
  | succ f ih =>
    intro e N n hT hN h1 h2 h3
    rw [MDp]
    by_cases hd : p ∣ n
    · obtain ⟨m, rfl⟩ := hd
      have hm : 1 ≤ m := by
        rcases Nat.eq_zero_or_pos m with y | y
        · subst y; omega
        · exact y
      have h7 : m ≤ N / p := (Nat.le_div_iff_mul_le (by omega)).mpr (by rw [Nat.mul_comm]; omega)
      have h8 : N / p < p ^ (f + 1) := by
        rw [Nat.div_lt_iff_lt_mul (by omega), ← Nat.pow_succ]
        exact hN
      rw [if_neg (by omega)]
      have e1 : p ^ e * (p * m) = p ^ (e + 1) * m := by rw [Nat.pow_succ]; grind
      rw [e1]
      exact HasD_mono (ih (e + 1) (N / p) m (Nat.le_trans (Nat.div_le_self _ _) hT) h8 hm h7 (fun r hr hrd => h3 r hr (Nat.dvd_trans hrd (Nat.dvd_mul_left m p)))) (Nat.le_max_right _ _)
    · exact HasD_mono (nod e N n hT h1 h2 h3 hd) (Nat.le_max_left _ _)
theorem MD_ok {c : Nat} : ∀ (ps : List Nat), (∀ p ∈ ps, isPr p) → ∀ N n, N ≤ 1000000 → 1 ≤ n → n ≤ N → prIn ps n → HasD (n ^ c) (MD c ps N) := by
  intro ps
  induction ps with
  | nil =>
    intro _ N n hN h1 h2 h3
    rw [MD]
    refine EB_ok (by omega) 5 N n (by omega) h1 h2 (fun p hp hd => ?_)
    rcases h3 p hp hd with w | w
    · exact absurd w (by simp)
    · exact w
  | cons p ps ih =>
    intro hps N n hN h1 h2 h3
    rw [MD]
    have hp := hps p List.mem_cons_self
    have := MDp_ok (c := c) (g := MD c ps) (ps := ps) (T := 1000000) hp (fun M m hM k1 k2 k3 => ih (fun r hr => hps r (List.mem_cons_of_mem _ hr)) M m hM k1 k2 k3) 20 0 N n hN (by
      have : 2 ^ 21 ≤ p ^ (20 + 1) := Nat.pow_le_pow_left hp.1 21
      omega) h1 h2 h3
    rw [Nat.pow_zero, Nat.one_mul] at this
    exact this
theorem isPr_dec {p : Nat} (h2 : 2 ≤ p) (h : ∀ d, d < p + 1 → d ∣ p → d = 1 ∨ d = p) : isPr p := ⟨h2, fun d hd => h d (by have := Nat.le_of_dvd (by omega) hd; omega) hd⟩
theorem pr_sm (r : Nat) (hr : isPr r) : r ∈ [2, 3, 5, 7, 11, 13] ∨ 17 ≤ r := by
  rcases Nat.lt_or_ge r 17 with h | h
  · have key : ∀ r, r < 17 → 2 ≤ r → r ∈ [2, 3, 5, 7, 11, 13] ∨ ∃ d, d < r ∧ d ∣ r ∧ d ≠ 1 := by decide
    rcases key r h hr.1 with w | ⟨d, h1, h2, h3⟩
    · exact Or.inl w
    · rcases hr.2 d h2 with w | w
      · exact absurd w h3
      · omega
  · exact Or.inr h
theorem six_pr : ∀ p ∈ [2, 3, 5, 7, 11, 13], isPr p := by
  intro p hp
  have key : ∀ p ∈ [2, 3, 5, 7, 11, 13], 2 ≤ p ∧ ∀ d, d < p + 1 → d ∣ p → d = 1 ∨ d = p := by decide
  exact isPr_dec (key p hp).1 (key p hp).2
theorem divs_le {c n N : Nat} (hN : N ≤ 1000000) (h1 : 1 ≤ n) (h2 : n ≤ N) {l : List Nat} (hn : l.Nodup) (hl : ∀ d ∈ l, d ∣ n ^ c) : l.length ≤ MD c [2, 3, 5, 7, 11, 13] N := by
  obtain ⟨L, hL, hm⟩ := MD_ok (c := c) [2, 3, 5, 7, 11, 13] six_pr N n hN h1 h2 (fun r hr _ => pr_sm r hr)
  exact Nat.le_trans (nodup_le l L hn (fun x hx => hm x (hl x hx))) hL
/-- the divisors of q q below q: fewer than half of all -/
theorem sq_half {q N : Nat} (hN : N ≤ 1000000) (h1 : 1 ≤ q) (h2 : q ≤ N) {l : List Nat} (hn : l.Nodup) (hl : ∀ d ∈ l, d < q ∧ d ∣ q * q) : 2 * l.length + 1 ≤ MD 2 [2, 3, 5, 7, 11, 13] N := by
  have hq2 : q ^ 2 = q * q := Nat.pow_two q
  have big : ∀ d ∈ l, q < q * q / d ∧ 0 < d := by
    intro d hd
    obtain ⟨a, x, hx⟩ := hl d hd
    have hd0 : 0 < d := by
      rcases Nat.eq_zero_or_pos d with z | z
      · subst z
        have : 0 < q * q := Nat.mul_pos h1 h1
        omega
      · exact z
    refine ⟨?_, hd0⟩
    rw [hx, Nat.mul_div_cancel_left x hd0]
    rcases Nat.lt_or_ge q x with w | w
    · exact w
    · exfalso
      have h3 : d * x ≤ d * q := Nat.mul_le_mul_left d w
      have h4 : d * q < q * q := Nat.mul_lt_mul_of_pos_right a h1
      omega
  have inj : ∀ d ∈ l, q * q / (q * q / d) = d := by
    intro d hd
    obtain ⟨a, x, hx⟩ := hl d hd
    have hd0 := (big d hd).2
    have hx0 : 0 < x := by
      rcases Nat.eq_zero_or_pos x with z | z
      · subst z
        have : 0 < q * q := Nat.mul_pos h1 h1
        omega
      · exact z
    rw [hx, Nat.mul_div_cancel_left x hd0, Nat.mul_div_cancel d hx0]
  have := divs_le (c := 2) hN h1 h2 (l := q :: (l ++ l.map (fun d => q * q / d))) ?_ ?_
  · rw [List.length_cons, List.length_append, List.length_map] at this
    omega
  · refine List.nodup_cons.mpr ⟨?_, List.nodup_append.mpr ⟨hn, ?_, ?_⟩⟩
    · intro hm
      rcases List.mem_append.mp hm with w | w
      · have := (hl q w).1; omega
      · obtain ⟨d, hd, e⟩ := List.mem_map.mp w
        have h3 := (big d hd).1
        have e2 : q * q / d = q := e
        omega
    · refine List.pairwise_map.mpr (List.Pairwise.imp_of_mem ?_ hn)
      intro a b ha hb hab e
      apply hab
      rw [← inj a ha, ← inj b hb, e]
    · intro a ha b hb e
      subst e
      obtain ⟨d, hd, e⟩ := List.mem_map.mp hb
      have h3 := (big d hd).1
      have h4 := (hl a ha).1
      have e2 : q * q / d = a := e
      omega
  · intro d hd
    rw [hq2]
    rcases List.mem_cons.mp hd with w | w
    · rw [w]; exact Nat.dvd_mul_left q q
    · rcases List.mem_append.mp w with w | w
      · exact (hl d w).2
      · obtain ⟨x, hx, e⟩ := List.mem_map.mp w
        have e2 : q * q / x = d := e
        rw [← e2]
        exact Nat.div_dvd_of_dvd (hl x hx).2
theorem sq_202 {q : Nat} (h1 : 1 ≤ q) (h2 : q ≤ 5000) {l : List Nat} (hn : l.Nodup) (hl : ∀ d ∈ l, d < q ∧ d ∣ q * q) : l.length ≤ 202 := by
  have h3 := sq_half (N := 5000) (by omega) h1 h2 hn hl
  have h4 : MD 2 [2, 3, 5, 7, 11, 13] 5000 ≤ 405 := by decide +kernel
  omega
theorem sq_1100 {q : Nat} (h1 : 1 ≤ q) (h2 : q ≤ 270000) {l : List Nat} (hn : l.Nodup) (hl : ∀ d ∈ l, d < q ∧ d ∣ q * q) : l.length ≤ 1100 := by
  have h3 := sq_half (N := 270000) (by omega) h1 h2 hn hl
  have h4 : MD 2 [2, 3, 5, 7, 11, 13] 270000 ≤ 2201 := by decide +kernel
  omega
theorem dv_48 {n : Nat} (h1 : 1 ≤ n) (h2 : n ≤ 5000) {l : List Nat} (hn : l.Nodup) (hl : ∀ d ∈ l, d ∣ n) : l.length ≤ 48 := by
  have h3 := divs_le (c := 1) (N := 5000) (by omega) h1 h2 hn (fun d hd => by rw [Nat.pow_one]; exact hl d hd)
  have h4 : MD 1 [2, 3, 5, 7, 11, 13] 5000 ≤ 48 := by decide +kernel
  omega
