/-! ===== the reference's has: is a number in the row ===== -/
theorem has5 {Q : Int → Prop} {row : Int → Int} {l : List Nat} {v : Nat} (hr : rep row l) (hl : l.length ≤ 16) : ∀ (d j : Nat) (g : Int), j + d = l.length → (g = 0 ∨ g = 1) → ((g = 1 ∨ v ∈ l.drop j) → Q 1) → ((g = 0 ∧ ¬ v ∈ l.drop j) → Q 0) → wp_X8_has_5 Q (l.length : Nat) row (d + 1) v g j := by
  intro d
  induction d with
  | zero =>
    intro j g hj hg h1 h0
    rw [wp_X8_has_5]
    have hd : l.drop j = [] := List.drop_eq_nil_of_le (by omega)
    rw [hd] at h1 h0
    refine ⟨fun _ => ⟨hg, ?_⟩, fun z => absurd z (by omega)⟩
    rcases hg with rfl | rfl
    · exact h0 ⟨rfl, List.not_mem_nil⟩
    · exact h1 (Or.inl rfl)
  | succ d ih =>
    intro j g hj hg h1 h0
    have hjl : j < l.length := by omega
    have hd : l.drop j = l[j] :: l.drop (j + 1) := List.drop_eq_getElem_cons hjl
    have hv : row j = (l[j] : Nat) := hr j l[j] (List.getElem?_eq_getElem hjl)
    rw [wp_X8_has_5]
    unfold wp_X8_has_30 wp_X8_has_35
    have ej : ((j : Int) + 1) = ((j + 1 : Nat) : Int) := rfl
    rw [ej]
    have k1 : (g = 1 ∨ v = l[j]) → wp_X8_has_5 Q (l.length : Nat) row (d + 1) v 1 ((j + 1 : Nat) : Int) := by
      intro hh
      refine ih (j + 1) 1 (by omega) (Or.inr rfl) (fun _ => h1 ?_) (fun z => absurd z.1 (by omega))
      rcases hh with hh | hh
      · exact Or.inl hh
      · exact Or.inr (by rw [hd, hh]; exact List.mem_cons_self)
    refine ⟨fun z => absurd z (by omega), fun _ => ⟨fun z => ⟨⟨by omega, by omega⟩, k1 (Or.inl (by omega))⟩, fun z => ⟨by omega, by omega, fun y => ⟨⟨by omega, by omega⟩, ?_⟩, fun y => ⟨⟨by omega, by omega⟩, k1 (Or.inr ?_)⟩⟩⟩⟩
    · have hne : ¬ v = l[j] := by intro w; apply y; rw [hv, w]
      refine ih (j + 1) 0 (by omega) (Or.inl rfl) (fun w => h1 ?_) (fun w => h0 ⟨z, ?_⟩)
      · rcases w with w | w
        · exact absurd w (by omega)
        · exact Or.inr (by rw [hd]; exact List.mem_cons_of_mem _ w)
      · rw [hd]
        intro u
        rcases List.mem_cons.mp u with u | u
        · exact hne u
        · exact w.2 u
    · rw [hv] at y
      exact (Int.ofNat.inj y).symm
theorem has8 {Q : Int → Prop} {row : Int → Int} {l : List Nat} {v : Nat} (hr : rep row l) (hl : l.length ≤ 16) (h1 : v ∈ l → Q 1) (h0 : ¬ v ∈ l → Q 0) : wp_X8_has Q (l.length : Nat) row v :=
  ⟨l.length + 1, has5 hr hl l.length 0 0 (by omega) (Or.inl rfl) (fun h => h1 (by rcases h with h | h; (exact absurd h (by omega)); simpa using h)) (fun h => h0 (by simpa using h.2))⟩
