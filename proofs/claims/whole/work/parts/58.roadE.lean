/-! ===== all five roads: what is told, both sides ===== -/
theorem bez : ∀ (m n : Nat), ∃ x y : Int, x * m + y * n = ((Nat.gcd m n : Nat) : Int) := by
  intro m
  induction m using Nat.strongRecOn with
  | ind m ih =>
    intro n
    rcases Nat.eq_zero_or_pos m with z | z
    · subst z
      exact ⟨0, 1, by rw [Nat.gcd_zero_left]; omega⟩
    · obtain ⟨x, y, h⟩ := ih (n % m) (Nat.mod_lt n z) m
      refine ⟨y - x * ((n / m : Nat) : Int), x, ?_⟩
      rw [Nat.gcd_rec m n, ← h]
      have e : (n : Int) = (m : Int) * ((n / m : Nat) : Int) + ((n % m : Nat) : Int) := by
        have := Nat.div_add_mod n m
        exact_mod_cast this.symm
      generalize ((n / m : Nat) : Int) = d at e ⊢
      generalize ((n % m : Nat) : Int) = r at e ⊢
      rw [e]
      grind
theorem mInv_spec {p q : Nat} (hq : 0 < q) (hg : Nat.gcd p q = 1) : mInv p q < q ∧ (q : Int) ∣ (mInv p q : Int) * p - 1 := by
  obtain ⟨x, y, h⟩ := bez p q
  rw [hg] at h
  have hq0 : (q : Int) ≠ 0 := by omega
  have n1 := Int.emod_nonneg x hq0
  have n2 := Int.emod_lt_of_pos x (show (0 : Int) < q by omega)
  refine Classical.epsilon_spec (p := fun s : Nat => s < q ∧ (q : Int) ∣ (s : Int) * p - 1) ⟨(x % q).toNat, by omega, ?_⟩
  have e1 : (((x % q).toNat : Nat) : Int) = x % q := by omega
  rw [e1]
  have e2 := Int.mul_ediv_add_emod x q
  refine ⟨-(x / q) * p - y, ?_⟩
  have h2 : x * p + y * q = 1 := h
  generalize x / (q : Int) = d at e2 ⊢
  generalize x % (q : Int) = r at e2 ⊢
  rw [← e2] at h2
  grind
def okL (l : List Nat) : Prop := l.length ≤ 16 ∧ ∀ v ∈ l, 1 ≤ v ∧ v ≤ 1000000000000
theorem okL_add {l : List Nat} {s : Nat} (h : okL l) (hl : ¬ 16 ≤ l.length) (h1 : 1 ≤ s) (h2 : s ≤ 1000000000000) : okL (l ++ [s]) := by
  refine ⟨by rw [List.length_append, List.length_singleton]; omega, fun v hv => ?_⟩
  rcases List.mem_append.mp hv with hv | hv
  · exact h.2 v hv
  · have := List.mem_singleton.mp hv
    omega
theorem greedL_ok {o : Bool} : ∀ (f p q t : Nat) (l l' : List Nat), greedL o f p q t l = some l' → okL l → okL l' := by
  intro f
  induction f with
  | zero => intro p q t l l' h; rw [greedL] at h; exact absurd h (by simp)
  | succ f ih =>
    intro p q t l l' h hl
    by_cases hp : p = 0
    · subst hp; rw [greedL_0] at h; cases h; exact hl
    by_cases h16 : 16 ≤ l.length
    · rw [greedL_16 hp h16] at h; exact absurd h (by simp)
    by_cases hG : 1000000000000 < nxt o p q t
    · rw [greedL_G hp h16 hG] at h; exact absurd h (by simp)
    by_cases hC : 1000000000000000 / nxt o p q t < q / Nat.gcd q (nxt o p q t)
    · rw [greedL_C hp h16 hG hC] at h; exact absurd h (by simp)
    rw [greedL_s hp h16 hG hC] at h
    have := (@nxt_ge o p q t (by omega)).1
    exact ih _ _ _ _ _ h (okL_add hl h16 (by omega) (by omega))
theorem factL_ok {q : Nat} (hq : 0 < q) : ∀ (f p m : Nat) (l l' : List Nat), factL q f p m l = some l' → 1 ≤ m → okL l → okL l' := by
  intro f
  induction f with
  | zero => intro p m l l' h; rw [factL] at h; exact absurd h (by simp)
  | succ f ih =>
    intro p m l l' h hm hl
    by_cases hp : p = 0
    · subst hp; rw [factL_0] at h; cases h; exact hl
    by_cases h16 : 16 ≤ l.length
    · rw [factL_16 hp h16] at h; exact absurd h (by simp)
    by_cases hG : 1000000000000 < m * ((q + p - 1) / p)
    · rw [factL_G hp h16 hG] at h; exact absurd h (by simp)
    rw [factL_s hp h16 hG] at h
    have ha1 : 1 ≤ (q + p - 1) / p := (Nat.le_div_iff_mul_le (by omega)).mpr (by omega)
    have h1 : 1 ≤ m * ((q + p - 1) / p) := Nat.mul_pos hm ha1
    exact ih _ _ _ _ h h1 (okL_add hl h16 h1 (by omega))
theorem middL_ok : ∀ (f p q : Nat) (l l' : List Nat), middL f p q l = some l' → p < q → q ≤ 1000000 → Nat.gcd p q = 1 → okL l → okL l' := by
  intro f
  induction f with
  | zero => intro p q l l' h; rw [middL] at h; exact absurd h (by simp)
  | succ f ih =>
    intro p q l l' h hpq hq2 hg hl
    by_cases hp : p = 0
    · subst hp; rw [middL_0] at h; cases h; exact hl
    by_cases h16 : 16 ≤ l.length
    · rw [middL_16 hp h16] at h; exact absurd h (by simp)
    rw [middL_s hp h16] at h
    obtain ⟨s1, s2⟩ := mInv_spec (show 0 < q by omega) hg
    obtain ⟨t1, t2, t3, t4, t5⟩ := mid_step (by omega) hpq s1 s2
    generalize mInv p q = s at h s1 s2 t1 t2 t3 t4 t5
    have b1 : 1 ≤ q * s := Nat.mul_pos (by omega) t1
    have b2 : q * s ≤ 1000000 * 1000000 := Nat.mul_le_mul hq2 (by omega)
    exact ih _ _ _ _ h t4 (by omega) t5 (okL_add hl h16 b1 (by omega))
theorem cutL_ok : ∀ (f : Nat) (l l' : List Nat), cutL f l = some l' → okL l → okL l' := by
  intro f
  induction f with
  | zero => intro l l' h; rw [cutL] at h; exact absurd h (by simp)
  | succ f ih =>
    intro l l' h hl
    cases ht : tw l with
    | none => rw [cutL_n ht] at h; cases h; exact hl
    | some n =>
      by_cases h16 : 16 ≤ l.length
      · rw [cutL_16 ht h16] at h; exact absurd h (by simp)
      by_cases hG : 1000000000000 < n * (n + 1)
      · rw [cutL_G ht hG] at h; exact absurd h (by simp)
      rw [cutL_s ht h16 hG] at h
      have hn : n ∈ l := by
        unfold tw at ht
        exact (List.mem_filter.mp (List.min?_mem ht)).1
      have hb := hl.2 n hn
      have hz1 : n + 1 ≤ n * (n + 1) := Nat.le_mul_of_pos_left _ (by omega)
      refine ih _ _ h ⟨?_, fun w hw => ?_⟩
      · rw [List.length_cons, List.length_cons, List.length_erase_of_mem hn]; omega
      · rcases List.mem_cons.mp hw with e | hw
        · omega
        · rcases List.mem_cons.mp hw with e | hw
          · omega
          · exact hl.2 w (List.mem_of_mem_erase hw)
noncomputable def roadL (r p q : Nat) : Option (List Nat) :=
  if r = 0 then greedL false 17 p q 1 [] else if r = 1 then greedL true 17 p q 1 [] else
  if r = 2 then (if p ≤ 16 then cutL (17 - p) (List.replicate p q) else none) else if r = 3 then middL 17 p q [] else factL q 17 p 1 []
theorem roadL_ok {r p q : Nat} {l : List Nat} (hp : 1 ≤ p) (hpq : p < q) (hq2 : q ≤ 1000000) (hg : Nat.gcd p q = 1) (h : roadL r p q = some l) : okL l := by
  have h0 : okL [] := ⟨by simp, fun v hv => absurd hv (by simp)⟩
  unfold roadL at h
  split at h
  · exact greedL_ok _ _ _ _ _ _ h h0
  split at h
  · exact greedL_ok _ _ _ _ _ _ h h0
  split at h
  · split at h
    · exact cutL_ok _ _ _ h ⟨by rw [List.length_replicate]; omega, fun v hv => by have := (List.mem_replicate.mp hv).2; omega⟩
    · exact absurd h (by simp)
  split at h
  · exact middL_ok _ _ _ _ _ h hpq hq2 hg h0
  · exact factL_ok (by omega) _ _ _ _ _ h (by omega) h0
theorem reach3 {Q : Int → (Int → Int) → Int → Prop} {r p q : Nat} {sh : Int → Int} (hr : r < 5) (hp : 1 ≤ p) (hpq : p < q) (hq2 : q ≤ 1000000) (hg : Nat.gcd p q = 1)
    (h1 : ∀ l' sh', roadL r p q = some l' → ms l'.length sh' l' → Q 1 sh' (l'.length : Nat)) (h2 : roadL r p q = none → ∀ sh' v, Q 0 sh' v) : wp_X3_reachesEnd Q sh 0 r p q := by
  unfold wp_X3_reachesEnd
  have e0 : r = 0 → roadL r p q = greedL false 17 p q 1 [] := fun z => by subst z; rfl
  have e1 : r = 1 → roadL r p q = greedL true 17 p q 1 [] := fun z => by subst z; rfl
  have e2 : r = 2 → roadL r p q = (if p ≤ 16 then cutL (17 - p) (List.replicate p q) else none) := fun z => by subst z; rfl
  have e3 : r = 3 → roadL r p q = middL 17 p q [] := fun z => by subst z; rfl
  have e4 : r = 4 → roadL r p q = factL q 17 p 1 [] := fun z => by subst z; rfl
  refine ⟨fun z => ?_, fun z => ?_, fun z => ?_, fun z => ?_, fun z => ?_⟩
  · have e := e4 (by omega)
    exact ⟨17, byFactors3 (by omega) hq2 17 p 1 [] sh rfl (by simp) (rep_nil _) hpq (by omega) (by omega) (fun l' s a b => ⟨Or.inr rfl, h1 l' s (by rw [e]; exact a) (ms_rep l' s b)⟩) (fun a s v => ⟨Or.inl rfl, h2 (by rw [e]; exact a) s v⟩)⟩
  · have e := e0 (by omega)
    exact ⟨17, byGreed3 (o := false) rfl 17 p q 1 [] sh rfl (by simp) (rep_nil _) hpq (by omega) (by omega) (by omega) (fun l' s a b => ⟨Or.inr rfl, h1 l' s (by rw [e]; exact a) (ms_rep l' s b)⟩) (fun a s v => ⟨Or.inl rfl, h2 (by rw [e]; exact a) s v⟩)⟩
  · have e := e1 (by omega)
    exact ⟨17, byGreed3 (o := true) rfl 17 p q 1 [] sh rfl (by simp) (rep_nil _) hpq (by omega) (by omega) (by omega) (fun l' s a b => ⟨Or.inr rfl, h1 l' s (by rw [e]; exact a) (ms_rep l' s b)⟩) (fun a s v => ⟨Or.inl rfl, h2 (by rw [e]; exact a) s v⟩)⟩
  · have e := e2 (by omega)
    exact byCutting3 hp (by omega) hq2 (fun l' s w a b => ⟨Or.inr rfl, h1 l' s (by rw [e, if_pos w]; exact a) b⟩) (fun a s v => ⟨Or.inl rfl, h2 (by rw [e]; by_cases w : p ≤ 16; (rw [if_pos w]; exact a w); (rw [if_neg w])) s v⟩)
  · have e := e3 (by omega)
    exact ⟨17, byMiddles3 17 p q [] sh rfl (by simp) (rep_nil _) hpq hq2 hg (fun l' s a b => ⟨Or.inr rfl, h1 l' s (by rw [e]; exact a) (ms_rep l' s b)⟩) (fun a s v => ⟨Or.inl rfl, h2 (by rw [e]; exact a) s v⟩)⟩
/-- the row in rising order that a road tells -/
def srow (l : List Nat) : Int → Int := srtN l.length (fun i => ((l.getD i.toNat 0 : Nat) : Int))
theorem srow_ms (l : List Nat) : ms l.length (fun i => ((l.getD i.toNat 0 : Nat) : Int)) l := by
  refine ms_rep l _ (fun i v hv => ?_)
  have e : ((i : Nat) : Int).toNat = i := by omega
  show ((l.getD ((i : Nat) : Int).toNat 0 : Nat) : Int) = v
  rw [e, List.getD_eq_getElem?_getD, hv]
  rfl
theorem srow_eq {l : List Nat} {f : Int → Int} (h : ms l.length f l) : ∀ j : Nat, j < l.length → srtN l.length f j = srow l j := ms_srt h (srow_ms l)
theorem srow_mem {l : List Nat} {j : Nat} (h : j < l.length) : ∃ v : Nat, v ∈ l ∧ srow l j = v := ms_mem (ms_srtN (srow_ms l)) h
theorem walk3 {Q : Int → (Int → Int) → Int → Prop} {r p q : Nat} {sh : Int → Int} {sz : Int} (hr : r < 5) (hp : 1 ≤ p) (hpq : p < q) (hq2 : q ≤ 1000000) (hg : Nat.gcd p q = 1)
    (h1 : ∀ l' sh', roadL r p q = some l' → okL l' → (∀ j : Nat, j < l'.length → sh' j = srow l' j) → Q (l'.length : Nat) sh' (l'.length : Nat)) (h2 : roadL r p q = none → ∀ sh' v, Q (-5) sh' v) : wp_X3_walk Q sh sz r p q := by
  unfold wp_X3_walk
  refine reach3 hr hp hpq hq2 hg (fun l' sh' a b => ⟨fun _ => ?_, fun z => absurd z (by omega)⟩) (fun a s v => ⟨fun z => absurd rfl z, fun _ => h2 a s v⟩)
  have ho := roadL_ok hp hpq hq2 hg a
  exact putInOrder3 ho.1 (h1 l' _ a ho (srow_eq b))
def noRoad (r p q : Nat) : Prop := p = 0 ∨ q ≤ p ∨ (r = 1 ∧ q % 2 = 0)
theorem follow7 {Q : Int → (Int → Int) → Int → Prop} {r p q : Nat} {sh : Int → Int} {sz : Int} (hr : r < 5) (hq2 : q ≤ 1000000) (hg : Nat.gcd p q = 1)
    (h0 : noRoad r p q → Q (-2) sh sz)
    (h1 : ∀ l' sh', ¬ noRoad r p q → roadL r p q = some l' → okL l' → (∀ j : Nat, j < l'.length → sh' j = srow l' j) → Q (l'.length : Nat) sh' (l'.length : Nat)) (h2 : ¬ noRoad r p q → roadL r p q = none → ∀ sh' v, Q (-5) sh' v) : wp_X7_follow Q sh sz r p q := by
  unfold wp_X7_follow wp_X7_follow_20 wp_X7_follow_23
  have e : (q : Int).tmod 2 = ((q % 2 : Nat) : Int) := nm_tmod q 2
  rw [e]
  unfold noRoad at h0 h1 h2
  refine ⟨fun z => h0 (Or.inl (by omega)), fun z => ⟨fun y => h0 (Or.inr (Or.inl (by omega))), fun y => ⟨fun w => ?_, fun w => ⟨fun u => ?_, fun u => h0 (Or.inr (Or.inr ⟨by omega, by omega⟩))⟩⟩⟩⟩
  · exact walk3 hr (by omega) (by omega) hq2 hg (fun l' s a b c => h1 l' s (by omega) a b c) (h2 (by omega))
  · exact walk3 hr (by omega) (by omega) hq2 hg (fun l' s a b c => h1 l' s (by omega) a b c) (h2 (by omega))
theorem goRoad8 {Q : Int → Int → (Int → Int) → Int → Prop} {r p q : Nat} {mm : Int} {row : Int → Int} {sp : Int} (hr : r < 5) (hq2 : q ≤ 1000000) (hg : Nat.gcd p q = 1)
    (h0 : noRoad r p q → Q (-2) mm row sp)
    (h1 : ∀ l' row', ¬ noRoad r p q → roadL r p q = some l' → okL l' → (∀ j : Nat, j < l'.length → row' j = srow l' j) → Q (l'.length : Nat) (l'.length : Nat) row' 0) (h2 : ¬ noRoad r p q → roadL r p q = none → ∀ n row', Q (-5) n row' 1) : wp_X8_goRoad Q mm row sp r p q := by
  unfold wp_X8_goRoad wp_X8_goRoad_29
  have e : (q : Int).tmod 2 = ((q % 2 : Nat) : Int) := nm_tmod q 2
  rw [e]
  have go : ¬ noRoad r p q → wp_X8_goRoad_32 Q mm row sp r p q := by
    intro hno
    have h1' := fun l' row' => h1 l' row' hno
    have h2' := h2 hno
    unfold noRoad at hno
    have hp : 1 ≤ p := by omega
    have hpq : p < q := by omega
    unfold wp_X8_goRoad_32 wp_X8_goRoad_97 wp_X8_goRoad_117
    have K1 : ∀ l' row', roadL r p q = some l' → ms l'.length row' l' → wp_X8_sort (fun (m_row_98 : Int → Int) => (((0 : Int) = 0 → Q (l'.length : Nat) (l'.length : Nat) m_row_98 0) ∧ (¬ ((0 : Int) = 0) → Q (-5) (l'.length : Nat) m_row_98 0))) (l'.length : Nat) row' := by
      intro l' row' a b
      have ho := roadL_ok hp hpq hq2 hg a
      have := ho.1
      exact sort8 (by omega) ⟨fun _ => h1' l' _ a ho (srow_eq b), fun z => absurd rfl z⟩
    have K2 : roadL r p q = none → ∀ (l' : List Nat) row', l'.length ≤ 16 → wp_X8_sort (fun (m_row_98 : Int → Int) => (((1 : Int) = 0 → Q (l'.length : Nat) (l'.length : Nat) m_row_98 1) ∧ (¬ ((1 : Int) = 0) → Q (-5) (l'.length : Nat) m_row_98 1))) (l'.length : Nat) row' := by
      intro a l' row' hl
      exact sort8 (by omega) ⟨fun z => absurd z (by omega), fun _ => h2' a _ _⟩
    have e0 : r = 0 → roadL r p q = greedL false 17 p q 1 [] := fun z => by subst z; rfl
    have e1 : r = 1 → roadL r p q = greedL true 17 p q 1 [] := fun z => by subst z; rfl
    have e2 : r = 2 → roadL r p q = (if p ≤ 16 then cutL (17 - p) (List.replicate p q) else none) := fun z => by subst z; rfl
    have e3 : r = 3 → roadL r p q = middL 17 p q [] := fun z => by subst z; rfl
    have e4 : r = 4 → roadL r p q = factL q 17 p 1 [] := fun z => by subst z; rfl
    have hc : ∀ (o : Bool) v, (q + p - 1) / p ≤ v → v ≤ 1 → (o = true → v % 2 = 1) → v ∈ ([] : List Nat) := by
      intro o v hv1 hv2
      have : 2 ≤ (q + p - 1) / p := (Nat.le_div_iff_mul_le (by omega)).mpr (by omega)
      omega
    refine ⟨fun z => ⟨fun y => ⟨fun w => ?_, fun w => ?_⟩, fun y => ?_⟩, fun z => ⟨⟨by omega, by omega⟩, ?_⟩⟩
    · have e := e4 (by omega)
      exact ⟨18, factors8 (by omega) hq2 17 p 1 [] row rfl (by simp) (rep_nil _) hpq (by omega) (by omega) (fun l' s a b => K1 l' s (by rw [e]; exact a) (ms_rep l' s b)) (fun a => K2 (by rw [e]; exact a))⟩
    · have e := e3 (by omega)
      exact ⟨18, middles8 17 p q [] row rfl (by simp) (rep_nil _) hpq hq2 hg (fun l' s a b => K1 l' s (by rw [e]; exact a) (ms_rep l' s b)) (fun a => K2 (by rw [e]; exact a))⟩
    · have e := e2 (by omega)
      exact cutUp8 hp (by omega) hq2 (fun l' s w a b => K1 l' s (by rw [e, if_pos w]; exact a) b) (fun a => K2 (by rw [e]; by_cases w : p ≤ 16; (rw [if_pos w]; exact a w); (rw [if_neg w])))
    · have : r = 0 ∨ r = 1 := by omega
      rcases this with rr | rr
      · have e := e0 rr
        exact ⟨18, greed8 (o := false) (by rw [rr]; rfl) 17 p q 1 [] row rfl (by simp) (rep_nil _) hpq (by omega) (by omega) (by omega) (fun v hv => absurd hv (by simp)) (hc false) (fun l' s a b => K1 l' s (by rw [e]; exact a) (ms_rep l' s b)) (fun a => K2 (by rw [e]; exact a))⟩
      · have e := e1 rr
        exact ⟨18, greed8 (o := true) (by rw [rr]; rfl) 17 p q 1 [] row rfl (by simp) (rep_nil _) hpq (by omega) (by omega) (by omega) (fun v hv => absurd hv (by simp)) (hc true) (fun l' s a b => K1 l' s (by rw [e]; exact a) (ms_rep l' s b)) (fun a => K2 (by rw [e]; exact a))⟩
  have hN := h0
  unfold noRoad at hN
  refine ⟨fun z => hN (Or.inl (by omega)), fun z => ⟨fun y => hN (Or.inr (Or.inl (by omega))), fun y => ⟨fun w => go (by unfold noRoad; omega), fun w => ⟨fun u => go (by unfold noRoad; omega), fun u => hN (Or.inr (Or.inr ⟨by omega, by omega⟩))⟩⟩⟩⟩
theorem isRoad7 {Q : Int → Prop} {r : Int} (h : Q (if 0 ≤ r ∧ r < 5 then 1 else 0)) : wp_X7_isRoad Q r := by
  unfold wp_X7_isRoad wp_X7_isRoad_13 wp_X7_isRoad_14
  refine ⟨fun z => ⟨Or.inl rfl, ?_⟩, fun z => ⟨fun y => ⟨Or.inl rfl, ?_⟩, fun y => ⟨Or.inr rfl, ?_⟩⟩⟩
  · rw [if_neg (by omega)] at h; exact h
  · rw [if_neg (by omega)] at h; exact h
  · rw [if_pos (by omega)] at h; exact h
theorem isRoad8 {Q : Int → Prop} {r : Int} (h : Q (if 0 ≤ r ∧ r < 5 then 1 else 0)) : wp_X8_isRoad Q r := by
  unfold wp_X8_isRoad
  refine in8 ?_
  by_cases z : 0 ≤ r ∧ r < 5
  · rw [if_pos (by omega)]; rw [if_pos z] at h; exact ⟨Or.inr rfl, h⟩
  · rw [if_neg (by omega)]; rw [if_neg z] at h; exact ⟨Or.inl rfl, h⟩
/-- class and reference go the road together -/
theorem roads_both {K : Int → (Int → Int) → Int → Int → Int → (Int → Int) → Int → Prop} {r p q : Nat} {sh : Int → Int} {sz : Int} {mm : Int} {row : Int → Int} {sp : Int} (hr : r < 5) (hq2 : q ≤ 1000000) (hg : Nat.gcd p q = 1)
    (hN : ∀ v : Int, v < 0 → ∀ sh' sz' mm' row' sp', K v sh' sz' v mm' row' sp')
    (hY : ∀ l' sh' row', okL l' → (∀ j : Nat, j < l'.length → sh' j = srow l' j) → (∀ j : Nat, j < l'.length → row' j = srow l' j) → K (l'.length : Nat) sh' (l'.length : Nat) (l'.length : Nat) (l'.length : Nat) row' 0) :
    wp_X7_follow (fun x sh' sz' => wp_X8_goRoad (fun y mm' row' sp' => K x sh' sz' y mm' row' sp') mm row sp r p q) sh sz r p q := by
  refine follow7 hr hq2 hg (fun a => ?_) (fun l' sh' a b c d => ?_) (fun a b sh' v => ?_)
  · exact goRoad8 hr hq2 hg (fun _ => hN _ (by omega) _ _ _ _ _) (fun _ _ z => absurd a z) (fun z => absurd a z)
  · refine goRoad8 hr hq2 hg (fun z => absurd z a) (fun l2 row2 _ b2 c2 d2 => ?_) (fun _ z => absurd z (by rw [b]; simp))
    have : l' = l2 := by rw [b] at b2; exact Option.some.inj b2
    subst this
    exact hY l' sh' row2 c d d2
  · exact goRoad8 hr hq2 hg (fun z => absurd z a) (fun l2 row2 _ b2 => absurd b2 (by rw [b]; simp)) (fun _ _ n row' => hN _ (by omega) _ _ _ _ _)
