/-! ===== wishes ===== -/
def wOk (w : Int → Int) (k : Int) : Prop := (w k = 102 ∨ w k = 108 ∨ w k = 103 ∨ w k = 115 ∨ w k = 101 ∨ w k = 111) ∧ ∀ j, 0 ≤ j → j < k → ¬ w j = w k
def IsFault (n : Int) (w : Int → Int) (v : Int) : Prop := (v = -4 ∧ ∀ k, 0 ≤ k → k < n → wOk w k) ∨ (0 ≤ v ∧ v < n ∧ ¬ wOk w v ∧ ∀ k, 0 ≤ k → k < v → wOk w k)
theorem IsFault.one {n : Int} {w : Int → Int} {u v : Int} (h1 : IsFault n w u) (h2 : IsFault n w v) : u = v := by
  rcases h1 with ⟨a1, a2⟩ | ⟨a1, a2, a3, a4⟩ <;> rcases h2 with ⟨b1, b2⟩ | ⟨b1, b2, b3, b4⟩
  · omega
  · exact absurd (a2 v b1 b2) b3
  · exact absurd (b2 u a1 a2) a3
  · rcases Int.lt_trichotomy u v with h | h | h
    · exact absurd (b4 u a1 h) a3
    · exact h
    · exact absurd (a4 v b1 h) b3
theorem isWish6 {Q : Int → Prop} {c : Int} (h : Q (if c = 102 ∨ c = 108 ∨ c = 103 ∨ c = 115 ∨ c = 101 ∨ c = 111 then 1 else 0)) : wp_X6_isWish Q c := by
  unfold wp_X6_isWish wp_X6_isWish_36 wp_X6_isWish_41
  by_cases hc : c = 102 ∨ c = 108 ∨ c = 103 ∨ c = 115 ∨ c = 101 ∨ c = 111
  · rw [if_pos hc] at h
    have k : ((1 : Int) = 0 ∨ (1 : Int) = 1) ∧ Q 1 := ⟨Or.inr rfl, h⟩
    exact ⟨fun _ => k, fun _ => ⟨fun _ => k, fun _ => ⟨fun _ => k, fun _ => ⟨fun _ => k, fun _ => ⟨fun _ => k, fun _ => ⟨fun z => absurd hc (by omega), fun _ => k⟩⟩⟩⟩⟩⟩
  · rw [if_neg hc] at h
    refine ⟨fun z => absurd hc (by omega), fun _ => ⟨fun z => absurd hc (by omega), fun _ => ⟨fun z => absurd hc (by omega), fun _ => ⟨fun z => absurd hc (by omega), fun _ => ⟨fun z => absurd hc (by omega), fun _ => ⟨fun _ => ⟨Or.inl rfl, h⟩, fun z => absurd hc (by omega)⟩⟩⟩⟩⟩⟩
theorem fw26 {Q : Int → Prop} {w : Int → Int} {n : Int} {K : Int → Prop} {l1 : Int} (h0 : 0 ≤ l1) (h8 : l1 < 8) : ∀ (d : Nat) (j : Int), 0 ≤ j → j + d = l1 → ((∀ i, j ≤ i → i < l1 → ¬ w i = w l1) → K (l1 + 1)) → ((∃ i, j ≤ i ∧ i < l1 ∧ w i = w l1) → Q l1) → wp_X6_findWrong_26 Q w n K (d + 1) l1 j := by
  intro d
  induction d with
  | zero =>
    intro j hj he hK hQ
    rw [wp_X6_findWrong_26]
    exact ⟨fun _ => ⟨⟨by omega, by omega⟩, hK (fun i h1 h2 => absurd h2 (by omega))⟩, fun z => absurd z (by omega)⟩
  | succ d ih =>
    intro j hj he hK hQ
    rw [wp_X6_findWrong_26]
    refine ⟨fun z => absurd z (by omega), fun _ => ⟨hj, by omega, h0, h8, fun h1 => ⟨⟨by omega, by omega⟩, ih (j + 1) (by omega) (by omega) (fun h2 => hK (fun i h3 h4 => ?_)) (fun h2 => ?_)⟩, fun h1 => hQ ⟨j, by omega, by omega, h1⟩⟩⟩
    · by_cases e : i = j
      · rw [e]; exact h1
      · exact h2 i (by omega) h4
    · obtain ⟨i, a, b, c⟩ := h2
      exact hQ ⟨i, by omega, b, c⟩
theorem fw2 {Q : Int → Prop} {w : Int → Int} {n : Int} (hn : n ≤ 8) (hQ : ∀ v, IsFault n w v → Q v) : ∀ (d : Nat) (k : Int), 0 ≤ k → k + d = n → (∀ i, 0 ≤ i → i < k → wOk w i) → wp_X6_findWrong_2 Q w n (d + 1) k := by
  intro d
  induction d with
  | zero =>
    intro k hk he hok
    rw [wp_X6_findWrong_2]
    exact ⟨fun _ => hQ _ (Or.inl ⟨rfl, fun i a b => hok i a (by omega)⟩), fun z => absurd z (by omega)⟩
  | succ d ih =>
    intro k hk he hok
    rw [wp_X6_findWrong_2]
    refine ⟨fun z => absurd z (by omega), fun _ => ⟨hk, by omega, isWish6 ?_⟩⟩
    by_cases hc : w k = 102 ∨ w k = 108 ∨ w k = 103 ∨ w k = 115 ∨ w k = 101 ∨ w k = 111
    · rw [if_pos hc]
      refine ⟨fun _ => ⟨k.toNat + 1, fw26 hk (by omega) k.toNat 0 (by omega) (by omega) (fun h1 => ih (k + 1) (by omega) (by omega) (fun i a b => ?_)) (fun h1 => ?_)⟩, fun z => absurd z (by omega)⟩
      · by_cases e : i = k
        · rw [e]; exact ⟨hc, fun j a2 b2 => h1 j a2 b2⟩
        · exact hok i a (by omega)
      · obtain ⟨i, a, b, c⟩ := h1
        exact hQ _ (Or.inr ⟨hk, by omega, fun z => z.2 i a b c, hok⟩)
    · rw [if_neg hc]
      exact ⟨fun z => absurd rfl z, fun _ => hQ _ (Or.inr ⟨hk, by omega, fun z => hc z.1, hok⟩)⟩
theorem findWrong6 {Q : Int → Prop} {w : Int → Int} {n : Int} (h0 : 0 ≤ n) (hn : n ≤ 8) (hQ : ∀ v, IsFault n w v → Q v) : wp_X6_findWrong Q w n :=
  ⟨n.toNat + 1, fw2 hn hQ n.toNat 0 (by omega) (by omega) (fun i a b => absurd b (by omega))⟩
theorem fl62 {Q : Int → Prop} {w : Int → Int} {n : Int} {K : Int → Prop} {l1 c : Int} (h0 : 0 ≤ l1) (h8 : l1 < 8) : ∀ (d : Nat) (g j : Int), 0 ≤ j → j + d = l1 → (g = 0 ∨ g = 1) → (g = 1 → (∀ i, j ≤ i → i < l1 → ¬ w i = c) → K (l1 + 1)) → (g = 0 ∨ (∃ i, j ≤ i ∧ i < l1 ∧ w i = c) → Q l1) → wp_X8_fault_62 Q n w K (d + 1) l1 c g j := by
  intro d
  induction d with
  | zero =>
    intro g j hj he hg hK hQ
    rw [wp_X8_fault_62]
    refine ⟨fun _ => ⟨fun z => ⟨⟨by omega, by omega⟩, hK (by omega) (fun i a b => absurd b (by omega))⟩, fun z => hQ (Or.inl z)⟩, fun z => absurd z (by omega)⟩
  | succ d ih =>
    intro g j hj he hg hK hQ
    rw [wp_X8_fault_62]
    have k0 : (g = 0 ∨ w j = c) → wp_X8_fault_87 Q n w K (wp_X8_fault_62 Q n w K (d + 1)) l1 c j := by
      intro hh
      unfold wp_X8_fault_87 wp_X8_fault_88
      refine ⟨⟨by omega, by omega⟩, ih 0 (j + 1) (by omega) (by omega) (Or.inl rfl) (fun z => absurd z (by omega)) (fun _ => hQ ?_)⟩
      rcases hh with hh | hh
      · exact Or.inl hh
      · exact Or.inr ⟨j, by omega, by omega, hh⟩
    refine ⟨fun z => absurd z (by omega), fun _ => ⟨fun z => k0 (Or.inl z), fun z => ⟨hj, by omega, fun h1 => k0 (Or.inr h1), fun h1 => ?_⟩⟩⟩
    unfold wp_X8_fault_88
    refine ⟨⟨by omega, by omega⟩, ih 1 (j + 1) (by omega) (by omega) (Or.inr rfl) (fun _ h2 => hK (by omega) (fun i a b => ?_)) (fun h2 => hQ ?_)⟩
    · by_cases e : i = j
      · rw [e]; exact h1
      · exact h2 i (by omega) b
    · rcases h2 with h2 | ⟨i, a, b, e⟩
      · exact absurd h2 (by omega)
      · exact Or.inr ⟨i, by omega, b, e⟩
theorem fl2 {Q : Int → Prop} {w : Int → Int} {n : Int} (hn : n ≤ 8) (hQ : ∀ v, IsFault n w v → Q v) : ∀ (d : Nat) (k : Int), 0 ≤ k → k + d = n → (∀ i, 0 ≤ i → i < k → wOk w i) → wp_X8_fault_2 Q n w (d + 1) k := by
  intro d
  induction d with
  | zero =>
    intro k hk he hok
    rw [wp_X8_fault_2]
    exact ⟨fun _ => hQ _ (Or.inl ⟨rfl, fun i a b => hok i a (by omega)⟩), fun z => absurd z (by omega)⟩
  | succ d ih =>
    intro k hk he hok
    rw [wp_X8_fault_2]
    have good : (w k = 102 ∨ w k = 108 ∨ w k = 103 ∨ w k = 115 ∨ w k = 101 ∨ w k = 111) → wp_X8_fault_53 Q n w (wp_X8_fault_2 Q n w (d + 1)) k (w k) := by
      intro hc
      unfold wp_X8_fault_53 wp_X8_fault_58
      refine ⟨k.toNat + 1, fl62 hk (by omega) k.toNat 1 0 (by omega) (by omega) (Or.inr rfl) (fun _ h1 => ih (k + 1) (by omega) (by omega) (fun i a b => ?_)) (fun h1 => ?_)⟩
      · by_cases e : i = k
        · rw [e]; exact ⟨hc, fun j a2 b2 => h1 j a2 b2⟩
        · exact hok i a (by omega)
      · rcases h1 with h1 | ⟨i, a, b, c⟩
        · exact absurd h1 (by omega)
        · exact hQ _ (Or.inr ⟨hk, by omega, fun z => z.2 i a b c, hok⟩)
    refine ⟨fun z => absurd z (by omega), fun _ => ⟨hk, by omega, fun x hx => ?_⟩⟩
    rw [hx]
    refine ⟨fun z => good (by omega), fun z1 => ⟨fun z => good (by omega), fun z2 => ⟨fun z => good (by omega), fun z3 => ⟨fun z => good (by omega), fun z4 => ⟨fun z => good (by omega), fun z5 => ⟨fun z6 => ?_, fun z => good (by omega)⟩⟩⟩⟩⟩⟩
    unfold wp_X8_fault_58
    have hc : ¬ (w k = 102 ∨ w k = 108 ∨ w k = 103 ∨ w k = 115 ∨ w k = 101 ∨ w k = 111) := by omega
    exact ⟨k.toNat + 1, fl62 hk (by omega) k.toNat 0 0 (by omega) (by omega) (Or.inl rfl) (fun z => absurd z (by omega)) (fun _ => hQ _ (Or.inr ⟨hk, by omega, fun z => hc z.1, hok⟩))⟩
theorem fault8 {Q : Int → Prop} {w : Int → Int} {n : Int} (h0 : 0 ≤ n) (hn : n ≤ 8) (hQ : ∀ v, IsFault n w v → Q v) : wp_X8_fault Q n w :=
  ⟨n.toNat + 1, fl2 hn hQ n.toNat 0 (by omega) (by omega) (fun i a b => absurd b (by omega))⟩
theorem wOk_cong {w w2 : Int → Int} {k : Int} (h : ∀ i, 0 ≤ i → i ≤ k → w i = w2 i) (hk : 0 ≤ k) (ho : wOk w k) : wOk w2 k := by
  obtain ⟨a, b⟩ := ho
  rw [h k hk (by omega)] at a b
  exact ⟨a, fun j h1 h2 => by rw [← h j h1 (by omega)]; exact b j h1 h2⟩
theorem IsFault.cong {n : Int} {w w2 : Int → Int} {v : Int} (h : ∀ i, 0 ≤ i → i < n → w i = w2 i) (hf : IsFault n w v) : IsFault n w2 v := by
  rcases hf with ⟨a1, a2⟩ | ⟨a1, a2, a3, a4⟩
  · exact Or.inl ⟨a1, fun k h1 h2 => wOk_cong (fun i h3 h4 => h i h3 (by omega)) h1 (a2 k h1 h2)⟩
  · exact Or.inr ⟨a1, a2, fun z => a3 (wOk_cong (fun i h3 h4 => (h i h3 (by omega)).symm) a1 z), fun k h1 h2 => wOk_cong (fun i h3 h4 => h i h3 (by omega)) h1 (a4 k h1 h2)⟩
/-- the wishes of class and reference are alike, and the class knows their fault -/
def WI (wl : Int → Int) (ws ww mn : Int) (mw : Int → Int) : Prop := ws = mn ∧ 0 ≤ ws ∧ ws ≤ 8 ∧ (∀ k, 0 ≤ k → k < 8 → wl k = mw k) ∧ IsFault ws wl ww
theorem fault_ok {wl mw : Int → Int} {ws ww mn : Int} (hI : WI wl ws ww mn mw) {K : Int → Int → Prop} (hK : ∀ v, K v v) : wp_X7_fault (fun v => wp_X8_fault (fun v2 => K v v2) mn mw) ww := by
  obtain ⟨rfl, h0, h8, he, hf⟩ := hI
  unfold wp_X7_fault wp_X6_firstWrong
  refine fault8 h0 h8 (fun v hv => ?_)
  have := hv.one (hf.cong (fun i a b => he i a (by omega)))
  rw [this]
  exact hK _
