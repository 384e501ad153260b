/-! ===== the divisors of q q below q, listed prime by prime ===== -/
def upM (P q : Nat) (S : List Nat) : List Nat := (S.map (fun x => x * P)).filter (fun d => decide (d < q))
theorem upM_nil {P q : Nat} : upM P q [] = [] := rfl
theorem upM_app {P q : Nat} {S : List Nat} {x : Nat} : upM P q (S ++ [x]) = upM P q S ++ (if x * P < q then [x * P] else []) := by
  unfold upM
  rw [List.map_append, List.filter_append]
  by_cases h : x * P < q
  · simp [List.filter_cons, h]
  · simp [List.filter_cons, h]
theorem addD5 {Q : (Int → Int) → Int → Prop} {f : Int → Int} {W : List Nat} {d q : Nat} (hr : rep f W) (hcap : d < q → W.length < 1100) (hq : q ≤ 270000) (h : ∀ f', rep f' (W ++ (if d < q then [d] else [])) → Q f' ((W ++ (if d < q then [d] else [])).length : Nat)) : wp_X5_addDivisor Q f (W.length : Nat) d q := by
  unfold wp_X5_addDivisor wp_X5_addDivisor_40
  by_cases hd : d < q
  · have hc := hcap hd
    rw [if_pos hd] at h
    refine ⟨fun z => absurd z (by omega), fun _ => ⟨fun z => absurd z (by omega), fun _ => ⟨⟨by omega, by omega⟩, by omega, by omega, ⟨by omega, by omega⟩, fun x hx => ?_⟩⟩⟩
    have := h _ (rep_add hr)
    rw [List.length_append, List.length_singleton] at this
    have ex : x = ((W.length + 1 : Nat) : Int) := by omega
    rw [ex]
    exact this
  · rw [if_neg hd, List.append_nil] at h
    exact ⟨fun _ => h f hr, fun z => absurd z (by omega)⟩
theorem mul22 {Q : (Int → Int) → Int → Prop} {K : (Int → Int) → Int → Int → Int → Int → Int → Int → Prop} {P q : Nat} {pw i : Nat} {A : List Nat} (hq : q ≤ 270000) (hP : P ≤ 270000) (hi : i < 1000) :
    ∀ (S2 S1 : List Nat) (f : Int → Int), rep f (A ++ (S1 ++ S2) ++ upM P q S1) → (A ++ (S1 ++ S2) ++ upM P q (S1 ++ S2)).length ≤ 1100 → (∀ x ∈ S2, x < q) →
    (∀ f', rep f' (A ++ (S1 ++ S2) ++ upM P q (S1 ++ S2)) → K f' ((A ++ (S1 ++ S2) ++ upM P q (S1 ++ S2)).length : Nat) P pw q ((A ++ (S1 ++ S2)).length : Nat) ((i + 1 : Nat) : Int)) →
    wp_X5_multiplyDivisors_22 Q K (S2.length + 1) f ((A ++ (S1 ++ S2) ++ upM P q S1).length : Nat) P pw q i ((A ++ (S1 ++ S2)).length : Nat) ((A.length + S1.length : Nat) : Int) := by
  intro S2
  induction S2 with
  | nil =>
    intro S1 f hr hc hx h
    rw [wp_X5_multiplyDivisors_22]
    rw [List.append_nil] at hr hc h ⊢
    have hlen : (A ++ S1).length = A.length + S1.length := List.length_append
    exact ⟨fun _ => ⟨⟨by omega, by omega⟩, h f hr⟩, fun z => absurd z (by omega)⟩
  | cons x S2 ih =>
    intro S1 f hr hc hx h
    rw [wp_X5_multiplyDivisors_22]
    have hlen : (A ++ (S1 ++ x :: S2)).length = A.length + (S1.length + (S2.length + 1)) := by rw [List.length_append, List.length_append, List.length_cons]
    have e1 : S1 ++ x :: S2 = (S1 ++ [x]) ++ S2 := by rw [List.append_assoc]; rfl
    have hlt : A.length + S1.length < 1100 := by
      rw [List.length_append] at hc
      omega
    have hget : (A ++ (S1 ++ x :: S2) ++ upM P q S1)[A.length + S1.length]? = some x := by
      rw [List.getElem?_append_left (by omega), List.getElem?_append_right (by omega), Nat.add_sub_cancel_left, List.getElem?_append_right (Nat.le_refl _), Nat.sub_self]
      rfl
    have hfx := hr _ _ hget
    rw [hfx]
    have hxq := hx x List.mem_cons_self
    have hxP : x * P ≤ 270000 * 270000 := Nat.mul_le_mul (by omega) hP
    have c1 : (x : Int) * (P : Int) = ((x * P : Nat) : Int) := rfl
    rw [c1]
    refine ⟨fun z => absurd z (by omega), fun _ => ⟨by omega, by omega, ?_, ?_⟩⟩
    · generalize x * P = z at hxP
      exact ⟨by omega, by omega⟩
    · have sub : upM P q ((S1 ++ [x]) ++ S2) = upM P q (S1 ++ [x]) ++ upM P q S2 := by unfold upM; rw [List.map_append, List.filter_append]
      refine addD5 hr (fun hd => ?_) hq (fun f' hr' => ⟨⟨by omega, by omega⟩, ?_⟩)
      · rw [e1, sub, upM_app, if_pos hd] at hc
        rw [e1]
        simp only [List.length_append, List.length_singleton] at hc ⊢
        omega
      · have e2 : (A ++ (S1 ++ x :: S2) ++ upM P q S1) ++ (if x * P < q then [x * P] else []) = A ++ ((S1 ++ [x]) ++ S2) ++ upM P q (S1 ++ [x]) := by
          rw [upM_app, e1, List.append_assoc]
        rw [e2] at hr' ⊢
        have go := ih (S1 ++ [x]) f' hr' (by rw [← e1]; exact hc) (fun y hy => hx y (List.mem_cons_of_mem _ hy)) (fun f2 hr2 => by rw [← e1] at hr2 ⊢; exact h f2 hr2)
        have e3 : ((A.length + S1.length : Nat) : Int) + 1 = ((A.length + (S1 ++ [x]).length : Nat) : Int) := by rw [List.length_append, List.length_singleton]; omega
        rw [e3, e1]
        exact go
/-- after i stages -/
def stg (P q M i : Nat) (A S : List Nat) : Prop := (A ++ S).Nodup ∧ (∀ d, d ∈ A ++ S ↔ d < q ∧ d ∣ P ^ i * M) ∧ S.Nodup ∧ ∀ d, d ∈ S ↔ d < q ∧ ∃ x, d = P ^ i * x ∧ x ∣ M
theorem stg_s {P q M i : Nat} {A S : List Nat} (hP : isPr P) (hM : ¬ P ∣ M) (h : stg P q M i A S) : stg P q M (i + 1) (A ++ S) (upM P q S) := by
  obtain ⟨h1, h2, h3, h4⟩ := h
  have hP2 := hP.1
  have hmem : ∀ d, d ∈ upM P q S ↔ d < q ∧ ∃ x, d = P ^ (i + 1) * x ∧ x ∣ M := by
    intro d
    unfold upM
    rw [List.mem_filter, List.mem_map]
    constructor
    · rintro ⟨⟨y, hy, rfl⟩, hd⟩
      obtain ⟨_, x, rfl, hx⟩ := (h4 y).mp hy
      exact ⟨of_decide_eq_true hd, x, by rw [Nat.pow_succ]; grind, hx⟩
    · rintro ⟨hd, x, rfl, hx⟩
      have e : P ^ (i + 1) * x = P ^ i * x * P := by rw [Nat.pow_succ]; grind
      refine ⟨⟨P ^ i * x, (h4 _).mpr ⟨?_, x, rfl, hx⟩, e.symm⟩, decide_eq_true hd⟩
      have : P ^ i * x ≤ P ^ i * x * P := Nat.le_mul_of_pos_right _ (by omega)
      omega
  have hnd : (upM P q S).Nodup := by
    unfold upM
    refine List.Pairwise.filter _ (List.pairwise_map.mpr (List.Pairwise.imp ?_ h3))
    intro a b hab e
    exact hab (Nat.eq_of_mul_eq_mul_right (by omega) e)
  refine ⟨List.nodup_append.mpr ⟨h1, hnd, ?_⟩, ?_, hnd, hmem⟩
  · intro a ha b hb e
    subst e
    obtain ⟨_, hd⟩ := (h2 a).mp ha
    obtain ⟨_, x, rfl, hx⟩ := (hmem a).mp hb
    apply hM
    have e1 : P ^ (i + 1) * x = P ^ i * (P * x) := by rw [Nat.pow_succ]; grind
    rw [e1] at hd
    have h5 := Nat.dvd_of_mul_dvd_mul_left (Nat.pow_pos (by omega)) hd
    exact Nat.dvd_trans (Nat.dvd_mul_right P x) h5
  · intro d
    rw [List.mem_append, h2, hmem]
    constructor
    · rintro (⟨a, b⟩ | ⟨a, x, rfl, hx⟩)
      · refine ⟨a, Nat.dvd_trans b ?_⟩
        rw [Nat.pow_succ, Nat.mul_assoc]
        exact Nat.mul_dvd_mul_left _ (Nat.dvd_mul_left M P)
      · exact ⟨a, Nat.mul_dvd_mul_left _ hx⟩
    · rintro ⟨a, b⟩
      by_cases hd : P ^ (i + 1) ∣ d
      · obtain ⟨x, rfl⟩ := hd
        exact Or.inr ⟨a, x, rfl, Nat.dvd_of_mul_dvd_mul_left (Nat.pow_pos (by omega)) b⟩
      · exact Or.inl ⟨a, pr_drop hP i d M b hd⟩
theorem mul6 {Q : (Int → Int) → Int → Prop} {P q M pw : Nat} (hq : q ≤ 270000) (hq1 : 1 ≤ q) (hPq : P ≤ 270000) (hP : isPr P) (hM : ¬ P ∣ M) (hpw : pw < 1000) (hdv : P ^ pw * M ∣ q * q)
    (h : ∀ l f, rep f l → l.Nodup → (∀ d, d ∈ l ↔ d < q ∧ d ∣ P ^ pw * M) → Q f (l.length : Nat)) :
    ∀ (k i : Nat) (A S : List Nat) (f : Int → Int), i + k = pw → stg P q M i A S → rep f (A ++ S) → wp_X5_multiplyDivisors_6 Q (k + 1) f ((A ++ S).length : Nat) P pw q (A.length : Nat) i := by
  intro k
  induction k with
  | zero =>
    intro i A S f hi hs hr
    have e : i = pw := by omega
    subst e
    rw [wp_X5_multiplyDivisors_6]
    exact ⟨fun _ => h _ _ hr hs.1 hs.2.1, fun z => absurd z (by omega)⟩
  | succ k ih =>
    intro i A S f hi hs hr
    rw [wp_X5_multiplyDivisors_6]
    have hs2 := stg_s hP hM hs
    have hcap : (A ++ S ++ upM P q S).length ≤ 1100 := by
      refine sq_1100 hq1 hq hs2.1 (fun d hd => ?_)
      obtain ⟨a, b⟩ := (hs2.2.1 d).mp hd
      refine ⟨a, Nat.dvd_trans b (Nat.dvd_trans ?_ hdv)⟩
      exact Nat.mul_dvd_mul_right (Nat.pow_dvd_pow P (by omega)) M
    refine ⟨fun z => absurd z (by omega), fun _ => ⟨S.length + 1, ?_⟩⟩
    have := mul22 (Q := Q) (K := wp_X5_multiplyDivisors_6 Q (k + 1)) (P := P) (q := q) (pw := pw) (i := i) (A := A) hq hPq (by omega) S [] f (by rw [upM_nil, List.append_nil]; exact hr) (by exact hcap) (fun x hx => ((hs.2.2.2 x).mp hx).1) (fun f' hr' => by
      have := ih (i + 1) (A ++ S) (upM P q S) f' (by omega) hs2 hr'
      exact this)
    rw [upM_nil, List.append_nil] at this
    exact this
theorem mulD5 {Q : (Int → Int) → Int → Prop} {P q M pw : Nat} {l : List Nat} {f : Int → Int} (hq : q ≤ 270000) (hq1 : 1 ≤ q) (hPq : P ≤ 270000) (hP : isPr P) (hM : ¬ P ∣ M) (hpw : pw < 1000) (hdv : P ^ pw * M ∣ q * q)
    (hn : l.Nodup) (hl : ∀ d, d ∈ l ↔ d < q ∧ d ∣ M) (hr : rep f l)
    (h : ∀ l f, rep f l → l.Nodup → (∀ d, d ∈ l ↔ d < q ∧ d ∣ P ^ pw * M) → Q f (l.length : Nat)) : wp_X5_multiplyDivisors Q f (l.length : Nat) P pw q := by
  refine ⟨pw + 1, ?_⟩
  refine mul6 hq hq1 hPq hP hM hpw hdv h pw 0 [] l f (by omega) ⟨hn, fun d => ?_, hn, fun d => ?_⟩ hr
  · rw [List.nil_append, hl, Nat.pow_zero, Nat.one_mul]
  · rw [hl, Nat.pow_zero]
    constructor
    · rintro ⟨a, b⟩; exact ⟨a, d, (Nat.one_mul d).symm, b⟩
    · rintro ⟨a, x, rfl, hx⟩; rw [Nat.one_mul] at a ⊢; exact ⟨a, hx⟩
/-- a divisor found by trial is a prime -/
theorem trial_pr {P r : Nat} (hP : 2 ≤ P) (hd : P ∣ r) (h : ∀ x, isPr x → x ∣ r → P ≤ x) : isPr P := by
  obtain ⟨x, hx, hxd⟩ := pr_ex P hP
  have h1 := h x hx (Nat.dvd_trans hxd hd)
  have h2 := Nat.le_of_dvd (by omega) hxd
  have : x = P := by omega
  rw [← this]
  exact hx
theorem last_pr {P r : Nat} (hr : 2 ≤ r) (hlt : r < P * P) (h : ∀ x, isPr x → x ∣ r → P ≤ x) : isPr r := by
  obtain ⟨x, hx, y, hy⟩ := pr_ex r hr
  have h1 := h x hx ⟨y, hy⟩
  have hy1 : y < 2 := by
    rcases Nat.lt_or_ge y 2 with w | w
    · exact w
    · exfalso
      obtain ⟨z, hz, hzd⟩ := pr_ex y w
      have h2 := h z hz (Nat.dvd_trans hzd ⟨x, by rw [hy, Nat.mul_comm]⟩)
      have h3 := Nat.le_of_dvd (by omega) hzd
      have : P * P ≤ x * y := Nat.mul_le_mul h1 (by omega)
      omega
  have : y = 1 := by
    rcases Nat.eq_zero_or_pos y with w | w
    · subst w; omega
    · omega
  subst this
  rw [Nat.mul_one] at hy
  rw [hy]
  exact hx
