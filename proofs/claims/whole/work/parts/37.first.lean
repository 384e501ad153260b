theorem fa_1 : ∀ i : Fin 31, 2 ≤ i.1 → (1 * (rk (i.1 - 1)).2 ≤ (rk (i.1 - 1)).1 ↔ 4 ≤ i.1) := by decide +kernel
theorem fa_2 : ∀ i : Fin 31, 2 ≤ i.1 → (2 * (rk (i.1 - 1)).2 ≤ (rk (i.1 - 1)).1 ↔ 11 ≤ i.1) := by decide +kernel
theorem fa7L {Q : Int → Prop} {w A : Nat} (hA : A ≤ 11) (hw : ∀ i : Fin 31, 2 ≤ i.1 → (w * (rk (i.1 - 1)).2 ≤ (rk (i.1 - 1)).1 ↔ A ≤ i.1)) (hQ : Q A) : ∀ (d k : Nat), k + d = A → 2 ≤ k → wp_X7_firstAbove_14 Q (d + 1) w k := by
  intro d
  have hlt : ∀ k : Nat, 2 ≤ k → k ≤ 11 → (risV k 0 < (w : Int) ↔ k < A) := by
    intro k h2 h11
    have h := hw ⟨k, by omega⟩ h2
    have hb := rk_b' (show k - 1 ≤ 29 by omega)
    have e : risV k 0 = (((rk (k - 1)).1 / (rk (k - 1)).2 : Nat) : Int) := by
      unfold risV
      rw [if_pos rfl]
      rfl
    dsimp only at h
    rw [e, Int.ofNat_lt, Nat.div_lt_iff_lt_mul hb.2.1]
    omega
  induction d with
  | zero =>
    intro k hk h2
    have : k = A := by omega
    subst this
    rw [wp_X7_firstAbove_14]
    refine ⟨fun z => absurd z (by omega), fun _ => rising7 (by omega) (by omega) (by omega) (by omega) ⟨fun z => absurd ((hlt k h2 hA).mp z) (by omega), fun _ => hQ⟩⟩
  | succ d ih =>
    intro k hk h2
    rw [wp_X7_firstAbove_14]
    refine ⟨fun z => absurd z (by omega), fun _ => rising7 (by omega) (by omega) (by omega) (by omega) ⟨fun _ => ⟨⟨by omega, by omega⟩, ih (k + 1) (by omega) (by omega)⟩, fun z => absurd ((hlt k h2 (by omega)).mpr (by omega)) z⟩⟩
theorem fa8L {Q : Int → Int → Int → Prop} {w A : Nat} (hA : A ≤ 11) (hw2 : w ≤ 2) (hw : ∀ i : Fin 31, 2 ≤ i.1 → (w * (rk (i.1 - 1)).2 ≤ (rk (i.1 - 1)).1 ↔ A ≤ i.1)) (hQ : ∀ su sd, Q A su sd) : ∀ (d k : Nat), k + d = A → 2 ≤ k → wp_X8_firstAbove_21 Q (d + 1) (rk (k - 1)).1 (rk (k - 1)).2 w k := by
  intro d
  have hr : ∀ k : Nat, k ≤ 11 → r64 ((w : Int) * ((rk (k - 1)).2 : Int)) := by
    intro k hk
    have hb := rk_b' (show k - 1 ≤ 29 by omega)
    have m : w * (rk (k - 1)).2 ≤ 2 * 100000000000000 := Nat.mul_le_mul hw2 (by omega)
    have c : (w : Int) * ((rk (k - 1)).2 : Int) = ((w * (rk (k - 1)).2 : Nat) : Int) := rfl
    rw [c]
    exact ⟨by omega, by omega⟩
  have hc : ∀ k : Nat, 2 ≤ k → k ≤ 11 → ((w : Int) * ((rk (k - 1)).2 : Int) ≤ ((rk (k - 1)).1 : Int) ↔ A ≤ k) := by
    intro k h2 h11
    have h := hw ⟨k, by omega⟩ h2
    have c : (w : Int) * ((rk (k - 1)).2 : Int) = ((w * (rk (k - 1)).2 : Nat) : Int) := rfl
    rw [c, Int.ofNat_le]
    exact h
  induction d with
  | zero =>
    intro k hk h2
    have : k = A := by omega
    subst this
    rw [wp_X8_firstAbove_21]
    exact ⟨hr k hA, fun _ => hQ _ _, fun z => absurd ((hc k h2 hA).mpr (Nat.le_refl _)) z⟩
  | succ d ih =>
    intro k hk h2
    rw [wp_X8_firstAbove_21]
    refine ⟨hr k (by omega), fun z => absurd ((hc k h2 (by omega)).mp z) (by omega), fun _ => ⟨⟨by omega, by omega⟩, rise8 (by omega) (by omega) ?_⟩⟩
    have e : ((k : Int) + 1).toNat - 1 = (k + 1) - 1 := by omega
    rw [e]
    exact ih (k + 1) (by omega) (by omega)
theorem firstAbove_ok (su sd w : Int) {K : Int → Int → Int → Int → Prop} (hK : ∀ v su' sd', K v v su' sd') :
    wp_X7_firstAbove (fun v => wp_X8_firstAbove (fun v2 su' sd' => K v v2 su' sd') su sd w) w := by
  by_cases hw : 1 ≤ w ∧ w ≤ 2
  · obtain ⟨W, A, hW, hA, hW2, hf⟩ : ∃ W A : Nat, w = (W : Int) ∧ (2 ≤ A ∧ A ≤ 11) ∧ W ≤ 2 ∧ (∀ i : Fin 31, 2 ≤ i.1 → (W * (rk (i.1 - 1)).2 ≤ (rk (i.1 - 1)).1 ↔ A ≤ i.1)) := by
      rcases (show w = 1 ∨ w = 2 by omega) with h | h
      · exact ⟨1, 4, h, by omega, by omega, fa_1⟩
      · exact ⟨2, 11, h, by omega, by omega, fa_2⟩
    subst hW
    unfold wp_X7_firstAbove
    refine ⟨fun z => absurd z (by omega), fun _ => ⟨fun _ => ⟨A - 2 + 1, fa7L hA.2 hf ?_ (A - 2) 2 (by omega) (by omega)⟩, fun z => absurd z (by omega)⟩⟩
    unfold wp_X8_firstAbove
    refine in8 ?_
    rw [if_pos hw]
    refine ⟨fun _ => rise8 (by omega) (by omega) ⟨A - 2 + 1, ?_⟩, fun z => absurd z (by omega)⟩
    exact fa8L hA.2 hW2 hf (fun su' sd' => hK _ _ _) (A - 2) 2 (by omega) (by omega)
  · have key8 : wp_X8_firstAbove (fun v2 su' sd' => K (-1) v2 su' sd') su sd w := by
      unfold wp_X8_firstAbove
      refine in8 ?_
      rw [if_neg hw]
      exact ⟨fun z => absurd rfl z, fun _ => hK _ _ _⟩
    unfold wp_X7_firstAbove wp_X7_firstAbove_10
    exact ⟨fun _ => key8, fun _ => ⟨fun z => absurd hw (by omega), fun _ => key8⟩⟩
