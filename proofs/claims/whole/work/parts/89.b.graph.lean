/-! ===== breadth first: both sides find the fewest steps ===== -/
def walk (A : Nat → Nat → Prop) (s : Nat) : Nat → Nat → Prop
  | 0, v => v = s
  | d + 1, v => ∃ u, walk A s d u ∧ A u v
def BF (N : Nat) (A : Nat → Nat → Prop) (s : Nat) (far : Int → Int) (qu : List Nat) (h : Nat) : Prop :=
  qu.Nodup ∧ (∀ v ∈ qu, v < N ∧ 0 ≤ far v ∧ walk A s (far v).toNat v) ∧ (∀ v : Nat, v < N → 0 ≤ far v → v ∈ qu) ∧ (s ∈ qu ∧ far s = 0) ∧
  qu.Pairwise (fun x y : Nat => far x ≤ far y) ∧ h ≤ qu.length ∧ (∀ i v : Nat, qu[i]? = some v → far v ≤ i) ∧
  (∀ i u w : Nat, i < h → qu[i]? = some u → A u w → w ∈ qu ∧ far w ≤ far u + 1) ∧ (∀ u : Nat, qu[h]? = some u → ∀ v ∈ qu, far v ≤ far u + 1)
theorem BF_claim {N : Nat} {A : Nat → Nat → Prop} {s : Nat} {far : Int → Int} {qu : List Nat} {h : Nat} (H : BF N A s far qu h) : ∀ (d v : Nat), walk A s d v → (v ∈ qu ∧ far v ≤ d) ∨ ∃ i u : Nat, h ≤ i ∧ qu[i]? = some u ∧ far u + 1 ≤ d := by
  obtain ⟨b1, b2, b3, b4, b5, b6, b7, b8, b9⟩ := H
  intro d
  induction d with
  | zero =>
    intro v hv
    have e : v = s := hv
    subst e
    exact Or.inl ⟨b4.1, by have := b4.2; omega⟩
  | succ d ih =>
    intro v hv
    obtain ⟨u, hu, ha⟩ := hv
    rcases ih u hu with ⟨w1, w2⟩ | ⟨i, x, w1, w2, w3⟩
    · obtain ⟨i, hi⟩ := List.getElem?_of_mem w1
      rcases Nat.lt_or_ge i h with c | c
      · obtain ⟨z1, z2⟩ := b8 i u v c hi ha
        exact Or.inl ⟨z1, by omega⟩
      · exact Or.inr ⟨i, u, c, hi, by omega⟩
    · exact Or.inr ⟨i, x, w1, w2, by omega⟩
theorem BF_min {N : Nat} {A : Nat → Nat → Prop} {s : Nat} {far : Int → Int} {qu : List Nat} {h : Nat} (H : BF N A s far qu h) {d v : Nat} (hv : v ∈ qu) (hw : walk A s d v) : far v ≤ d := by
  rcases BF_claim H d v hw with ⟨_, w⟩ | ⟨i, u, w1, w2, w3⟩
  · exact w
  · obtain ⟨b1, b2, b3, b4, b5, b6, b7, b8, b9⟩ := H
    have hi := (List.getElem?_eq_some_iff.mp w2).1
    have hx : qu[h]? = some qu[h] := List.getElem?_eq_getElem (by omega)
    have h1 := b9 _ hx v hv
    have h2 : far ((qu[h] : Nat) : Int) ≤ far u := by
      rcases Nat.lt_or_ge h i with c | c
      · have := List.pairwise_iff_getElem.mp b5 h i (by omega) hi c
        have e : qu[i] = u := (List.getElem?_eq_some_iff.mp w2).2
        rw [e] at this
        exact this
      · have e : h = i := by omega
        subst e
        rw [hx] at w2
        have e2 := Option.some.inj w2
        rw [e2]
        exact Int.le_refl _
    omega
theorem BF_out {N : Nat} {A : Nat → Nat → Prop} {s : Nat} {far : Int → Int} {qu : List Nat} (H : BF N A s far qu qu.length) {d v : Nat} (hw : walk A s d v) : v ∈ qu := by
  rcases BF_claim H d v hw with ⟨w, _⟩ | ⟨i, u, w1, w2, w3⟩
  · exact w
  · have := (List.getElem?_eq_some_iff.mp w2).1
    omega
theorem BF_two {N : Nat} {A : Nat → Nat → Prop} {s j : Nat} (hj : j < N) {far far' : Int → Int} {qu qu' : List Nat} {h h' : Nat} (H : BF N A s far qu h) (H' : BF N A s far' qu' h') (e : 0 ≤ far j ∨ h = qu.length) (e' : 0 ≤ far' j ∨ h' = qu'.length) :
    (if 0 ≤ far j then far j else -4) = if 0 ≤ far' j then far' j else -4 := by
  by_cases c : 0 ≤ far j
  · have m := H.2.2.1 j hj c
    have w := (H.2.1 j m).2.2
    by_cases c' : 0 ≤ far' j
    · have m' := H'.2.2.1 j hj c'
      have w' := (H'.2.1 j m').2.2
      have a := BF_min H m w'
      have b := BF_min H' m' w
      rw [if_pos c, if_pos c']
      omega
    · rcases e' with e' | e'
      · exact absurd e' c'
      · subst e'
        exact absurd (H'.2.1 j (BF_out H' w)).2.1 c'
  · by_cases c' : 0 ≤ far' j
    · have m' := H'.2.2.1 j hj c'
      have w' := (H'.2.1 j m').2.2
      rcases e with e | e
      · exact absurd e c
      · subst e
        exact absurd (H.2.1 j (BF_out H w')).2.1 c
    · rw [if_neg c, if_neg c']
theorem BF_init {N : Nat} {A : Nat → Nat → Prop} {s : Nat} (hs : s < N) {far : Int → Int} (hf : ∀ v : Nat, v < N → far v < 0) : BF N A s (ups far s 0) [s] 0 := by
  refine ⟨List.nodup_cons.mpr ⟨by simp, List.nodup_nil⟩, fun v hv => ?_, fun v hv h0 => ?_, ⟨List.mem_singleton.mpr rfl, ups_s⟩, List.pairwise_singleton _ _, by simp, fun i v h => ?_, fun i u w hi => by omega, fun u hu v hv => ?_⟩
  · have e := List.mem_singleton.mp hv
    subst e
    rw [ups_s]
    exact ⟨hs, by omega, rfl⟩
  · by_cases e : v = s
    · exact List.mem_singleton.mpr e
    · rw [ups_n (by omega)] at h0
      have := hf v hv
      omega
  · have e := List.mem_singleton.mp (List.mem_of_getElem? h)
    subst e
    rw [ups_s]
    omega
  · have e := List.mem_singleton.mp hv
    have e2 : s = u := by simpa using hu
    subst e
    subst e2
    omega
theorem BF_add {N : Nat} {A : Nat → Nat → Prop} {s : Nat} {far : Int → Int} {qu : List Nat} {h u w : Nat} (H : BF N A s far qu h) (hu : qu[h]? = some u) (ha : A u w) (hw : w < N) (hn : far w < 0) : BF N A s (ups far w (far u + 1)) (qu ++ [w]) h := by
  obtain ⟨b1, b2, b3, b4, b5, b6, b7, b8, b9⟩ := H
  have hnw : w ∉ qu := fun z => by have := (b2 w z).2.1; omega
  have hne : ∀ v ∈ qu, ups far w (far u + 1) (v : Int) = far v := fun v hv => ups_n (fun z => hnw (by rw [← Int.ofNat.inj z]; exact hv))
  have hum := List.mem_of_getElem? hu
  have hu0 := b2 u hum
  have hhl := (List.getElem?_eq_some_iff.mp hu).1
  refine ⟨?_, fun v hv => ?_, fun v hv h0 => ?_, ⟨List.mem_append_left _ b4.1, by rw [hne s b4.1]; exact b4.2⟩, ?_, by rw [List.length_append]; omega, fun i v hi => ?_, fun i x y hi hx hxy => ?_, fun x hx v hv => ?_⟩
  · rw [List.nodup_append]
    refine ⟨b1, List.nodup_cons.mpr ⟨by simp, List.nodup_nil⟩, fun a ha' b hb => ?_⟩
    have := List.mem_singleton.mp hb
    subst this
    exact fun z => hnw (by rw [← z]; exact ha')
  · rcases List.mem_append.mp hv with z | z
    · rw [hne v z]; exact b2 v z
    · have e := List.mem_singleton.mp z
      subst e
      rw [ups_s]
      refine ⟨hw, by omega, ?_⟩
      rw [show (far u + 1).toNat = (far u).toNat + 1 by omega]
      exact ⟨u, hu0.2.2, ha⟩
  · by_cases e : v = w
    · exact List.mem_append_right _ (List.mem_singleton.mpr e)
    · rw [ups_n (by omega)] at h0
      exact List.mem_append_left _ (b3 v hv h0)
  · rw [List.pairwise_append]
    refine ⟨List.Pairwise.imp_of_mem (fun {x y} hx hy hxy => by rw [hne x hx, hne y hy]; exact hxy) b5, List.pairwise_singleton _ _, fun x hx y hy => ?_⟩
    have e := List.mem_singleton.mp hy
    subst e
    rw [hne x hx, ups_s]
    exact b9 u hu x hx
  · rcases Nat.lt_or_ge i qu.length with c | c
    · rw [List.getElem?_append_left c] at hi
      rw [hne v (List.mem_of_getElem? hi)]
      exact b7 i v hi
    · rw [List.getElem?_append_right c] at hi
      have e := List.mem_singleton.mp (List.mem_of_getElem? hi)
      subst e
      rw [ups_s]
      have := b7 h u hu
      omega
  · rw [List.getElem?_append_left (by omega)] at hx
    obtain ⟨z1, z2⟩ := b8 i x y hi hx hxy
    rw [hne y z1, hne x (List.mem_of_getElem? hx)]
    exact ⟨List.mem_append_left _ z1, z2⟩
  · rw [List.getElem?_append_left hhl, hu] at hx
    have e := Option.some.inj hx
    subst e
    rw [hne u hum]
    rcases List.mem_append.mp hv with z | z
    · rw [hne v z]; exact b9 u hu v z
    · have e := List.mem_singleton.mp z
      subst e
      rw [ups_s]
      omega
theorem BF_next {N : Nat} {A : Nat → Nat → Prop} {s : Nat} {far : Int → Int} {qu : List Nat} {h u : Nat} (H : BF N A s far qu h) (hu : qu[h]? = some u) (hall : ∀ w, A u w → 0 ≤ far (w : Nat) ∧ w < N) : BF N A s far qu (h + 1) := by
  obtain ⟨b1, b2, b3, b4, b5, b6, b7, b8, b9⟩ := H
  have hhl := (List.getElem?_eq_some_iff.mp hu).1
  refine ⟨b1, b2, b3, b4, b5, by omega, b7, fun i x y hi hx hxy => ?_, fun x hx v hv => ?_⟩
  · rcases Nat.lt_or_ge i h with c | c
    · exact b8 i x y c hx hxy
    · have e : i = h := by omega
      subst e
      rw [hu] at hx
      have e := Option.some.inj hx
      subst e
      have hy := b3 y (hall y hxy).2 (hall y hxy).1
      exact ⟨hy, b9 u hu y hy⟩
  · have h1 := b9 u hu v hv
    have h2 := (List.getElem?_eq_some_iff.mp hx).1
    have h3 := List.pairwise_iff_getElem.mp b5 h (h + 1) hhl h2 (by omega)
    have e1 : qu[h] = u := (List.getElem?_eq_some_iff.mp hu).2
    have e2 : qu[h + 1] = x := (List.getElem?_eq_some_iff.mp hx).2
    rw [e1, e2] at h3
    omega
theorem BF_len {N : Nat} {A : Nat → Nat → Prop} {s : Nat} {far : Int → Int} {qu : List Nat} {h w : Nat} (H : BF N A s far qu h) (hw : w < N) (hn : far w < 0) : qu.length < N := by
  have hnw : w ∉ qu := fun z => by have := (H.2.1 w z).2.1; omega
  have := nodup_le (w :: qu) (List.range N) (List.nodup_cons.mpr ⟨hnw, H.1⟩) (fun x hx => by
    rw [List.mem_range]
    rcases List.mem_cons.mp hx with z | z
    · rw [z]; exact hw
    · exact (H.2.1 x z).1)
  rw [List.length_range, List.length_cons] at this
  omega
theorem BF_len2 {N : Nat} {A : Nat → Nat → Prop} {s : Nat} {far : Int → Int} {qu : List Nat} {h : Nat} (H : BF N A s far qu h) : qu.length ≤ N := by
  have := nodup_le qu (List.range N) H.1 (fun x hx => by rw [List.mem_range]; exact (H.2.1 x hx).1)
  rw [List.length_range] at this
  exact this
