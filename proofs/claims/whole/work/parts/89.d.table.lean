/-! ===== table: both sides ===== -/
theorem sbl_mem : ∀ (vs : List Nat) (k : Nat) (l : List Nat), l.Sublist vs → l ≠ [] → l.length ≤ k → l ∈ sbl vs k := by
  intro vs
  induction vs with
  | nil => intro k l h hn _; exact absurd (List.sublist_nil.mp h) hn
  | cons v vs ih =>
    intro k l h hn hk
    cases k with
    | zero => exact absurd (List.length_eq_zero_iff.mp (by omega)) hn
    | succ k =>
      rw [sbl, List.mem_append]
      cases h with
      | cons _ h => exact Or.inr (ih (k + 1) l h hn hk)
      | cons_cons _ h =>
        rename_i r
        rw [List.length_cons] at hk
        refine Or.inl (List.mem_cons.mpr ?_)
        cases r with
        | nil => exact Or.inl rfl
        | cons y r => exact Or.inr (List.mem_map.mpr ⟨_, ih k _ h (by simp) (by omega), rfl⟩)
theorem TS_pos {q n : Nat} (hq : 1 ≤ q) (hn : n ≤ 60) (hn2 : 2 ≤ n) : ∀ x ∈ rl n (n - 1), 0 < cw q x := by
  intro x hx
  have := (rl_mem (n := n) (n - 1) x (by omega)).mp hx
  exact cw_pos hq (by omega) (by omega)
theorem TS_up {p q n m k : Nat} (hq : 1 ≤ q) (hn : n ≤ 60) (hn2 : 2 ≤ n) {l : List Nat} (h : l ∈ TS p q n k) (hl : l.length ≤ m) : l ∈ TS p q n m := by
  obtain ⟨a, b, c, d⟩ := SL_mem _ _ _ _ h
  unfold TS
  rw [SL_filter _ _ _ (TS_pos hq hn hn2), List.mem_filter]
  exact ⟨sbl_mem _ _ _ a c hl, decide_eq_true d⟩
theorem few_f : ∀ (D : List (List Nat)) (f : Int), let r := D.foldl (fun f l => if f < 0 ∨ (l.length : Int) < f then (l.length : Int) else f) f
    (∀ l ∈ D, r ≤ l.length ∧ 0 ≤ r) ∧ (r = f ∨ ∃ l ∈ D, r = l.length) ∧ (0 ≤ f → 0 ≤ r ∧ r ≤ f) := by
  intro D
  induction D with
  | nil => intro f; exact ⟨fun l h => by simp at h, Or.inl rfl, fun h => ⟨h, Int.le_refl _⟩⟩
  | cons a t ih =>
    intro f
    have h := ih (if f < 0 ∨ (a.length : Int) < f then (a.length : Int) else f)
    have hf : 0 ≤ (if f < 0 ∨ (a.length : Int) < f then (a.length : Int) else f) ∧ (if f < 0 ∨ (a.length : Int) < f then (a.length : Int) else f) ≤ a.length := by
      split <;> omega
    have hf2 : (if f < 0 ∨ (a.length : Int) < f then (a.length : Int) else f) = f ∨ (if f < 0 ∨ (a.length : Int) < f then (a.length : Int) else f) = a.length := by
      split
      · exact Or.inr rfl
      · exact Or.inl rfl
    have hf3 : 0 ≤ f → (if f < 0 ∨ (a.length : Int) < f then (a.length : Int) else f) ≤ f := by
      intro h0
      split <;> omega
    show (∀ l ∈ a :: t, t.foldl _ (if f < 0 ∨ (a.length : Int) < f then (a.length : Int) else f) ≤ l.length ∧ 0 ≤ t.foldl _ (if f < 0 ∨ (a.length : Int) < f then (a.length : Int) else f)) ∧ (t.foldl _ (if f < 0 ∨ (a.length : Int) < f then (a.length : Int) else f) = f ∨ ∃ l ∈ a :: t, t.foldl _ (if f < 0 ∨ (a.length : Int) < f then (a.length : Int) else f) = l.length) ∧ (0 ≤ f → 0 ≤ t.foldl _ (if f < 0 ∨ (a.length : Int) < f then (a.length : Int) else f) ∧ t.foldl _ (if f < 0 ∨ (a.length : Int) < f then (a.length : Int) else f) ≤ f)
    generalize (if f < 0 ∨ (a.length : Int) < f then (a.length : Int) else f) = F at *
    obtain ⟨h1, h2, h3⟩ := h
    have h3' := h3 hf.1
    generalize List.foldl (fun (f : Int) (l : List Nat) => if f < 0 ∨ (l.length : Int) < f then (l.length : Int) else f) F t = R at *
    refine ⟨fun l hl => ?_, ?_, fun h0 => ?_⟩
    · rcases List.mem_cons.mp hl with w | w
      · rw [w]; omega
      · exact h1 l w
    · rcases h2 with w | ⟨l, hl, w⟩
      · rcases hf2 with u | u
        · exact Or.inl (by omega)
        · exact Or.inr ⟨a, List.mem_cons_self, by omega⟩
      · exact Or.inr ⟨l, List.mem_cons_of_mem _ hl, w⟩
    · have := hf3 h0
      omega
theorem few_nil {D : List (List Nat)} (h : D = []) : few D = -4 := by rw [h]; rfl
theorem few_mem {D : List (List Nat)} (h : D ≠ []) : (∃ l ∈ D, few D = l.length) ∧ ∀ l ∈ D, few D ≤ l.length := by
  obtain ⟨h1, h2, _⟩ := few_f D (-4)
  refine ⟨?_, fun l hl => (h1 l hl).1⟩
  rcases h2 with w | w
  · obtain ⟨a, ha⟩ := List.exists_mem_of_ne_nil D h
    have := (h1 a ha).2
    omega
  · exact w
theorem few_le {p q n k : Nat} (hn : n ≤ 60) (hn2 : 2 ≤ n) : few (TS p q n k) = -4 ∨ (1 ≤ few (TS p q n k) ∧ few (TS p q n k) ≤ k) := by
  by_cases h : TS p q n k = []
  · exact Or.inl (few_nil h)
  · obtain ⟨⟨l, hl, e⟩, _⟩ := few_mem h
    have := (TS_mem hn hn2 hl).1
    have h1 := this.1
    have h2 := this.2.1
    exact Or.inr (by omega)
theorem fewestShares2 {Q : Int → (Int → Int) → Int → Prop} {p q n k : Nat} {nu we wa gr pf fi : Int → Int} {li si pa wn nf : Int} (hq : 1 ≤ q) (hn : n ≤ 60) (hn2 : 2 ≤ n) (hk : k ≤ 6) (h : FP p q n nu we wa gr pf li si pa wn)
    (hQ : ∀ fi' nf', Q (few (TS p q n k)) fi' nf') : wp_X2_fewestShares Q nu we wa gr pf fi li si pa wn nf k := by
  have loop : ∀ (c m : Nat) (fi : Int → Int) (nf : Int), m + c = k + 1 → 1 ≤ m → (∀ m', m' < m → TS p q n m' = []) → wp_X2_fewestShares_2 Q nu we wa gr pf li si pa wn (c + 1) fi nf k m := by
    intro c
    induction c with
    | zero =>
      intro m fi nf hm h1 hall
      rw [wp_X2_fewestShares_2]
      refine ⟨fun _ => ?_, fun z => absurd z (by omega)⟩
      rw [← few_nil (hall k (by omega))]
      exact hQ _ _
    | succ c ih =>
      intro m fi nf hm h1 hall
      rw [wp_X2_fewestShares_2]
      refine ⟨fun z => absurd z (by omega), fun _ => collect2 (z := 1) (by omega) (by omega) h1 h (fun f' n' hRS => ?_)⟩
      have hn' := hRS.1
      refine ⟨fun z => ⟨⟨by omega, by omega⟩, ih (m + 1) _ _ (by omega) (by omega) (fun m' hm' => ?_)⟩, fun z => ?_⟩
      · by_cases e : m' = m
        · subst e
          exact List.length_eq_zero_iff.mp (by omega)
        · exact hall m' (by omega)
      · have hne : TS p q n m ≠ [] := fun w => by rw [w] at hn'; simp at hn'; omega
        obtain ⟨a, ha⟩ := List.exists_mem_of_ne_nil _ hne
        have ham := (TS_mem hn hn2 ha).1
        have ha2 := TS_up (m := k) hq hn hn2 ha (by have := ham.2.1; omega)
        have hne2 : TS p q n k ≠ [] := fun w => by rw [w] at ha2; simp at ha2
        obtain ⟨⟨l, hl, e⟩, hle⟩ := few_mem hne2
        have h2 := hle a ha2
        have h3 := ham.2.1
        have hlm : m ≤ l.length := by
          rcases Nat.lt_or_ge l.length m with u | u
          · have := TS_up (m := l.length) hq hn hn2 hl (Nat.le_refl _)
            rw [hall _ u] at this
            simp at this
          · exact u
        have : few (TS p q n k) = m := by omega
        rw [← this]
        exact hQ _ _
  exact ⟨_, loop k 1 fi nf (by omega) (by omega) (fun m' hm' => by
    have : m' = 0 := by omega
    subst this
    exact SL_0)⟩
theorem TS_low {p q g n k : Nat} (hg : 1 ≤ g) : TS (g * p) (g * q) n k = TS p q n k := by
  unfold TS
  refine SL_prop (A := 1) (B := g) (by omega) hg _ k _ _ (fun x _ => ?_) ?_
  · unfold cw
    rw [Nat.one_mul, Nat.mul_assoc]
  · rw [Nat.one_mul, Nat.mul_assoc]
theorem fewest7 {Q : Int → (Int → Int) → (Int → Int) → (Int → Int) → (Int → Int) → (Int → Int) → (Int → Int) → (Int → Int) → (Int → Int) → Int → Int → Int → Int → Int → Int → Prop} {p q n k : Nat} {tr le nu we wa gr pf fi : Int → Int} {ba li si pa wn nf : Int} (hp : 1 ≤ p) (hpq : p < q) (hq : q ≤ 1000000) (hn : n ≤ 60) (hn2 : 2 ≤ n) (hk : k ≤ 6) (hwa : wa 0 = 0)
    (hQ : ∀ tr le nu we (wa : Int → Int) gr pf fi ba li si pa wn nf, wa 0 = 0 → Q (few (TS p q n k)) tr le nu we wa gr pf fi ba li si pa wn nf) : wp_X7_fewest Q tr le nu we wa gr pf fi ba li si pa wn nf p q n k := by
  unfold wp_X7_fewest
  refine cd7' (by omega) (by omega) ?_
  have hg : 0 < Nat.gcd p q := Nat.gcd_pos_of_pos_left _ (by omega)
  have hg2 : Nat.gcd p q ≤ p := Nat.gcd_le_left _ (by omega)
  have hc : Nat.gcd (p / Nat.gcd p q) (q / Nat.gcd p q) = 1 := by rw [Nat.gcd_div (Nat.gcd_dvd_left p q) (Nat.gcd_dvd_right p q), Nat.div_self hg]
  have ep := Nat.mul_div_cancel' (Nat.gcd_dvd_left p q)
  have eq := Nat.mul_div_cancel' (Nat.gcd_dvd_right p q)
  rw [nm_tdiv, nm_tdiv]
  generalize Nat.gcd p q = g at *
  generalize hP : p / g = P at *
  generalize hQ' : q / g = R at *
  have hlow := TS_low (p := P) (q := R) (n := n) (k := k) (show 1 ≤ g from hg)
  rw [ep, eq] at hlow
  have hP1 : 1 ≤ P := by
    rcases Nat.eq_zero_or_pos P with z | z
    · rw [z] at ep; simp at ep; omega
    · exact z
  have hPR : P < R := by
    rw [← ep, ← eq] at hpq
    exact Nat.lt_of_mul_lt_mul_left hpq
  have hR : R ≤ q := by rw [← hQ']; exact Nat.div_le_self _ _
  refine ⟨⟨by omega, by omega⟩, by omega, by omega, prepare2 hn hn2 hP1 hPR hc (by omega) hwa (fun tr' le' nu' we' wa' gr' pf' ba' li' si' pa' wn' hFP => ?_)⟩
  refine fewestShares2 (by omega) hn hn2 hk hFP (fun fi' nf' => ?_)
  rw [← hlow]
  exact hQ _ _ _ _ _ _ _ _ _ _ _ _ _ _ hFP.1
def hst (F : Nat → Int) : Nat → Int × Int
  | 0 => (-4, 0)
  | j + 1 => if (hst F j).2 < (if F (j + 1) < 0 then 99 else F (j + 1)) then (((j + 1 : Nat) : Int), (if F (j + 1) < 0 then 99 else F (j + 1))) else hst F j
theorem hst_stuck {F : Nat → Int} (hF : ∀ v, F v = -4 ∨ (1 ≤ F v ∧ F v ≤ 6)) {j : Nat} (h : (hst F j).2 = 99) : ∀ d, hst F (j + d) = hst F j := by
  intro d
  induction d with
  | zero => rfl
  | succ d ih =>
    show hst F (j + d + 1) = _
    rw [hst, ih, h, if_neg]
    have := hF (j + d + 1)
    split <;> omega
theorem hardest7 {Q : Int → (Int → Int) → (Int → Int) → (Int → Int) → (Int → Int) → (Int → Int) → (Int → Int) → (Int → Int) → (Int → Int) → Int → Int → Int → Int → Int → Int → Prop} {q n k : Nat} {tr le nu we wa gr pf fi : Int → Int} {ba li si pa wn nf : Int} (hq2 : 2 ≤ q) (hq : q ≤ 60) (hn : n ≤ 60) (hn2 : 2 ≤ n) (hk : k ≤ 6) (hwa : wa 0 = 0)
    (hQ : ∀ tr le nu we (wa : Int → Int) gr pf fi ba li si pa wn nf, wa 0 = 0 → Q (hst (fun v => few (TS v q n k)) (q - 1)).1 tr le nu we wa gr pf fi ba li si pa wn nf) : ∃ n0, wp_X7_table_69 Q n0 tr le nu we wa gr pf fi ba li si pa wn nf q n k 1 0 1 := by
  have hF : ∀ v, (fun v => few (TS v q n k)) v = -4 ∨ (1 ≤ (fun v => few (TS v q n k)) v ∧ (fun v => few (TS v q n k)) v ≤ 6) := by
    intro v
    rcases few_le (p := v) (q := q) (n := n) (k := k) hn hn2 with w | w
    · exact Or.inl w
    · exact Or.inr ⟨w.1, by have := w.2; show few (TS v q n k) ≤ 6; omega⟩
  have loop : ∀ (c j : Nat) (tr le nu we wa gr pf fi : Int → Int) (ba li si pa wn nf ha : Int), j + 1 + c = q → wa 0 = 0 → (1 ≤ j → ha = (hst (fun v => few (TS v q n k)) j).1) → 0 ≤ (hst (fun v => few (TS v q n k)) j).2 → (hst (fun v => few (TS v q n k)) j).2 ≤ 6 → (j = 0 → ha = 1) →
      wp_X7_table_69 Q (c + 1) tr le nu we wa gr pf fi ba li si pa wn nf q n k ha (hst (fun v => few (TS v q n k)) j).2 ((j + 1 : Nat) : Int) := by
    intro c
    induction c with
    | zero =>
      intro j tr le nu we wa gr pf fi ba li si pa wn nf ha hj hw h1 h2 h3 h4
      rw [wp_X7_table_69]
      refine ⟨fun _ => ?_, fun z => absurd z (by omega)⟩
      have e : j = q - 1 := by omega
      rw [h1 (by omega), e]
      exact hQ _ _ _ _ _ _ _ _ _ _ _ _ _ _ hw
    | succ c ih =>
      intro j tr le nu we wa gr pf fi ba li si pa wn nf ha hj hw h1 h2 h3 h4
      rw [wp_X7_table_69]
      refine ⟨fun z => absurd z (by omega), fun _ => fewest7 (by omega) (by omega) (by omega) hn hn2 hk hw (fun tr' le' nu' we' wa' gr' pf' fi' ba' li' si' pa' wn' nf' hw' => ?_)⟩
      have hFj := hF (j + 1)
      have hst1 : hst (fun v => few (TS v q n k)) (j + 1) = if (hst (fun v => few (TS v q n k)) j).2 < (if few (TS (j + 1) q n k) < 0 then 99 else few (TS (j + 1) q n k)) then (((j + 1 : Nat) : Int), (if few (TS (j + 1) q n k) < 0 then 99 else few (TS (j + 1) q n k))) else hst (fun v => few (TS v q n k)) j := rfl
      have hFj2 : few (TS (j + 1) q n k) = -4 ∨ (1 ≤ few (TS (j + 1) q n k) ∧ few (TS (j + 1) q n k) ≤ 6) := hFj
      have e2 : ((j + 1 : Nat) : Int) + 1 = ((j + 1 + 1 : Nat) : Int) := rfl
      unfold wp_X7_table_111
      refine ⟨fun z => ?_, fun z => ?_⟩
      · rw [if_neg (show ¬ few (TS (j + 1) q n k) < 0 by omega)] at hst1
        refine ⟨fun w => ⟨⟨by omega, by omega⟩, ?_⟩, fun w => ⟨⟨by omega, by omega⟩, ?_⟩⟩
        · have hj1 : 1 ≤ j := by
            rcases Nat.eq_zero_or_pos j with u | u
            · subst u
              have : (hst (fun v => few (TS v q n k)) 0).2 = 0 := rfl
              omega
            · exact u
          rw [if_neg (by omega)] at hst1
          have := ih (j + 1) tr' le' nu' we' wa' gr' pf' fi' ba' li' si' pa' wn' nf' ha (by omega) hw' (fun _ => by rw [hst1]; exact h1 hj1) (by rw [hst1]; exact h2) (by rw [hst1]; exact h3) (fun z => by omega)
          rw [hst1] at this
          rw [e2]
          exact this
        · rw [if_pos (by omega)] at hst1
          have := ih (j + 1) tr' le' nu' we' wa' gr' pf' fi' ba' li' si' pa' wn' nf' ((j + 1 : Nat) : Int) (by omega) hw' (fun _ => by rw [hst1]) (by rw [hst1]; show 0 ≤ few (TS (j + 1) q n k); omega) (by rw [hst1]; show few (TS (j + 1) q n k) ≤ 6; omega) (fun z => by omega)
          rw [hst1] at this
          rw [e2]
          exact this
      · rw [if_pos (show few (TS (j + 1) q n k) < 0 by omega), if_pos (by omega)] at hst1
        have hs := hst_stuck hF (j := j + 1) (by rw [hst1]) (q - 1 - (j + 1))
        have e : j + 1 + (q - 1 - (j + 1)) = q - 1 := by omega
        rw [e, hst1] at hs
        have := hQ tr' le' nu' we' wa' gr' pf' fi' ba' li' si' pa' wn' nf' hw'
        rw [hs] at this
        exact this
  exact ⟨_, loop (q - 1) 0 tr le nu we wa gr pf fi ba li si pa wn nf 1 (by omega) hwa (fun z => by omega) (Int.le_refl _) (show (0 : Int) ≤ 6 by omega) (fun _ => rfl)⟩
theorem table88 {Q : Int → Int → (Int → Int) → (Int → Int) → (Int → Int) → (Int → Int) → (Int → Int) → (Int → Int) → Int → Prop} {q n k : Nat} {fo : Int} {ma sh st ta ru rd : Int → Int} {fe : Int} (hq2 : 2 ≤ q) (hq : q ≤ 60) (hn : n ≤ 60) (hn2 : 2 ≤ n) (hk : k ≤ 6) (hk1 : 1 ≤ k)
    (hQ : ∀ ta ru rd fe, Q (hst (fun v => few (TS v q n k)) (q - 1)).1 fo ma sh st ta ru rd fe) : ∃ n0, wp_X8_table_88 Q n0 fo ma sh st ta ru rd fe q n k (-4) 0 1 := by
  have loop : ∀ (c j : Nat) (ta ru rd : Int → Int) (fe : Int), j + 1 + c = q → wp_X8_table_88 Q (c + 1) fo ma sh st ta ru rd fe q n k (hst (fun v => few (TS v q n k)) j).1 (hst (fun v => few (TS v q n k)) j).2 ((j + 1 : Nat) : Int) := by
    intro c
    induction c with
    | zero =>
      intro j ta ru rd fe hj
      rw [wp_X8_table_88]
      refine ⟨fun _ => ?_, fun z => absurd z (by omega)⟩
      have e : j = q - 1 := by omega
      rw [e]
      exact hQ _ _ _ _
    | succ c ih =>
      intro j ta ru rd fe hj
      rw [wp_X8_table_88]
      refine ⟨fun z => absurd z (by omega), fun _ => findFew8 (by omega) (by omega) (by omega) hn hn2 hk hk1 (fun ta' ru' rd' => ?_)⟩
      have hst1 : hst (fun v => few (TS v q n k)) (j + 1) = if (hst (fun v => few (TS v q n k)) j).2 < (if few (TS (j + 1) q n k) < 0 then 99 else few (TS (j + 1) q n k)) then (((j + 1 : Nat) : Int), (if few (TS (j + 1) q n k) < 0 then 99 else few (TS (j + 1) q n k))) else hst (fun v => few (TS v q n k)) j := rfl
      have hn1 := ih (j + 1) ta' ru' rd' (few (TS (j + 1) q n k)) (by omega)
      have e2 : ((j + 1 : Nat) : Int) + 1 = ((j + 1 + 1 : Nat) : Int) := rfl
      have key : ∀ k0, k0 = (if few (TS (j + 1) q n k) < 0 then 99 else few (TS (j + 1) q n k)) → wp_X8_table_122 Q (wp_X8_table_88 Q (c + 1)) fo ma sh st ta' ru' rd' (few (TS (j + 1) q n k)) q n k (hst (fun v => few (TS v q n k)) j).1 (hst (fun v => few (TS v q n k)) j).2 ((j + 1 : Nat) : Int) k0 := by
        intro k0 hk0
        rw [← hk0] at hst1
        unfold wp_X8_table_122 wp_X8_table_138 wp_X8_table_154
        rw [e2]
        refine ⟨fun w => ⟨fun _ => ⟨⟨by omega, by omega⟩, ?_⟩, fun z => absurd w z⟩, fun w => ⟨fun z => absurd z w, fun _ => ⟨⟨by omega, by omega⟩, ?_⟩⟩⟩
        · rw [if_neg (by omega)] at hst1
          rw [hst1] at hn1
          exact hn1
        · rw [if_pos (by omega)] at hst1
          rw [hst1] at hn1
          exact hn1
      exact ⟨fun z => key _ (by rw [if_neg (by omega)]), fun z => key _ (by rw [if_pos (by omega)])⟩
  exact ⟨_, loop (q - 1) 0 ta ru rd fe (by omega)⟩
theorem table_ok {tr le nu we wa gr pf fi : Int → Int} {ba li si pa wn nf : Int} {fo : Int} {ma sh st ta ru rd : Int → Int} {fe : Int} (hwa : wa 0 = 0) (q n k p : Int)
    {K : Int → (Int → Int) → (Int → Int) → (Int → Int) → (Int → Int) → (Int → Int) → (Int → Int) → (Int → Int) → (Int → Int) → Int → Int → Int → Int → Int → Int → Int → Int → (Int → Int) → (Int → Int) → (Int → Int) → (Int → Int) → (Int → Int) → (Int → Int) → Int → Prop}
    (hK : ∀ v tr le nu we (wa : Int → Int) gr pf fi ba li si pa wn nf ta ru rd fe, wa 0 = 0 → K v tr le nu we wa gr pf fi ba li si pa wn nf v fo ma sh st ta ru rd fe) :
    wp_X7_table (fun v tr le nu we wa gr pf fi ba li si pa wn nf => wp_X8_table (fun v2 fo ma sh st ta ru rd fe => K v tr le nu we wa gr pf fi ba li si pa wn nf v2 fo ma sh st ta ru rd fe) fo ma sh st ta ru rd fe q n k p) tr le nu we wa gr pf fi ba li si pa wn nf q n k p := by
  have ref : ∀ {Q : Int → Int → (Int → Int) → (Int → Int) → (Int → Int) → (Int → Int) → (Int → Int) → (Int → Int) → Int → Prop}, (¬ ((2 ≤ q ∧ q ≤ 60) ∧ (2 ≤ n ∧ n ≤ 40) ∧ (1 ≤ k ∧ k ≤ 4) ∧ 0 ≤ p ∧ p < q) → Q (-1) fo ma sh st ta ru rd fe) →
      ((2 ≤ q ∧ q ≤ 60) ∧ (2 ≤ n ∧ n ≤ 40) ∧ (1 ≤ k ∧ k ≤ 4) ∧ 0 ≤ p ∧ p < q → (p ≤ 0 → ∃ n0, wp_X8_table_88 Q n0 fo ma sh st ta ru rd fe q n k (-4) 0 1) ∧ (¬ p ≤ 0 → wp_X8_findSums (fun fo ma sh st ta ru rd fe => Q fe fo ma sh st ta ru rd fe) fo ma sh st ta ru rd fe p q n k 0)) →
      wp_X8_table Q fo ma sh st ta ru rd fe q n k p := by
    intro Q hb hg
    unfold wp_X8_table wp_X8_table_54
    refine in8 ?_
    by_cases h1 : 2 ≤ q ∧ q ≤ 60
    · rw [if_pos h1]
      refine ⟨fun z => absurd z (by omega), fun _ => in8 ?_⟩
      by_cases h2 : 2 ≤ n ∧ n ≤ 40
      · rw [if_pos h2]
        refine ⟨fun z => absurd z (by omega), fun _ => in8 ?_⟩
        by_cases h3 : 1 ≤ k ∧ k ≤ 4
        · rw [if_pos h3]
          refine ⟨fun z => absurd z (by omega), fun _ => ⟨⟨by omega, by omega⟩, in8 ?_⟩⟩
          by_cases h4 : 0 ≤ p ∧ p ≤ q - 1
          · rw [if_pos h4]
            exact ⟨fun _ => hg (by omega), fun z => absurd z (by omega)⟩
          · rw [if_neg h4]
            exact ⟨fun z => absurd rfl z, fun _ => hb (by omega)⟩
        · rw [if_neg h3]
          exact ⟨fun _ => hb (by omega), fun z => absurd rfl z⟩
      · rw [if_neg h2]
        exact ⟨fun _ => hb (by omega), fun z => absurd rfl z⟩
    · rw [if_neg h1]
      exact ⟨fun _ => hb (by omega), fun z => absurd rfl z⟩
  unfold wp_X7_table wp_X7_table_43
  have bad : ¬ ((2 ≤ q ∧ q ≤ 60) ∧ (2 ≤ n ∧ n ≤ 40) ∧ (1 ≤ k ∧ k ≤ 4) ∧ 0 ≤ p ∧ p < q) → wp_X8_table (fun v2 fo ma sh st ta ru rd fe => K (-1) tr le nu we wa gr pf fi ba li si pa wn nf v2 fo ma sh st ta ru rd fe) fo ma sh st ta ru rd fe q n k p :=
    fun hb => ref (fun _ => hK _ _ _ _ _ _ _ _ _ _ _ _ _ _ _ _ _ _ _ hwa) (fun z => absurd z hb)
  refine ⟨fun z => bad (by omega), fun z1 => ⟨fun z => bad (by omega), fun z2 => ⟨fun z => bad (by omega), fun z3 => ⟨fun z => bad (by omega), fun z4 => ⟨fun z => bad (by omega), fun z5 => ⟨fun z => bad (by omega), fun z6 => ⟨fun z => bad (by omega), fun z7 => ⟨fun z8 => ?_, fun z => bad (by omega)⟩⟩⟩⟩⟩⟩⟩⟩
  have hV : (2 ≤ q ∧ q ≤ 60) ∧ (2 ≤ n ∧ n ≤ 40) ∧ (1 ≤ k ∧ k ≤ 4) ∧ 0 ≤ p ∧ p < q := by omega
  obtain ⟨q', rfl⟩ : ∃ q' : Nat, q = q' := ⟨q.toNat, by omega⟩
  obtain ⟨n', rfl⟩ : ∃ n' : Nat, n = n' := ⟨n.toNat, by omega⟩
  obtain ⟨k', rfl⟩ : ∃ k' : Nat, k = k' := ⟨k.toNat, by omega⟩
  obtain ⟨p', rfl⟩ : ∃ p' : Nat, p = p' := ⟨p.toNat, by omega⟩
  refine ⟨fun hp => hardest7 (by omega) (by omega) (by omega) (by omega) (by omega) hwa (fun tr le nu we wa gr pf fi ba li si pa wn nf hw => ?_), fun hp => fewest7 (by omega) (by omega) (by omega) (by omega) (by omega) (by omega) hwa (fun tr le nu we wa gr pf fi ba li si pa wn nf hw => ?_)⟩
  · exact ref (fun z => absurd hV z) (fun _ => ⟨fun _ => table88 (by omega) (by omega) (by omega) (by omega) (by omega) (by omega) (fun ta ru rd fe => hK _ _ _ _ _ _ _ _ _ _ _ _ _ _ _ _ _ _ _ hw), fun z => absurd z (by omega)⟩)
  · exact ref (fun z => absurd hV z) (fun _ => ⟨fun z => absurd z (by omega), fun _ => findFew8 (by omega) (by omega) (by omega) (by omega) (by omega) (by omega) (by omega) (fun ta ru rd => hK _ _ _ _ _ _ _ _ _ _ _ _ _ _ _ _ _ _ _ hw)⟩)
