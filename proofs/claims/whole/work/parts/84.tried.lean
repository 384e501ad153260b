/-! ===== trying the multiples ===== -/
def mlt (b : Nat → Bool) (w : Nat) : Nat → List Nat
  | 0 => []
  | t + 1 => mlt b w t ++ (if b ((t + 1) * w) = false then [(t + 1) * w] else [])
theorem mlt_mem {b : Nat → Bool} {w x : Nat} : ∀ t, (x ∈ mlt b w t ↔ ∃ j, 1 ≤ j ∧ j ≤ t ∧ x = j * w ∧ b x = false) := by
  intro t
  induction t with
  | zero => constructor; (intro h; simp [mlt] at h); (rintro ⟨j, h1, h2, _⟩; omega)
  | succ t ih =>
    rw [mlt, List.mem_append, ih]
    constructor
    · rintro (⟨j, a, c, d⟩ | h)
      · exact ⟨j, a, by omega, d⟩
      · by_cases hb : b ((t + 1) * w) = false
        · rw [if_pos hb] at h
          have := List.mem_singleton.mp h
          exact ⟨t + 1, by omega, Nat.le_refl _, this, by rw [this]; exact hb⟩
        · rw [if_neg hb] at h; simp at h
    · rintro ⟨j, a, c, d, e⟩
      by_cases hj : j = t + 1
      · subst hj
        right
        rw [if_pos (by rw [← d]; exact e), d]
        exact List.mem_singleton.mpr rfl
      · exact Or.inl ⟨j, a, by omega, d, e⟩
/-- the inverses that stand beside the numbers tried -/
def lvs (P w : Nat) (G : List Nat) (le : Int → Int) : Prop := ∀ (i x : Nat), G[i]? = some x → ∃ s : Nat, le i = s ∧ s < P ∧ (P : Int) ∣ (s : Int) * ((x / w : Nat) : Int) - 1
theorem gat5 {Q : Int → (Int → Int) → (Int → Int) → Prop} {ba : Int} {lm w P : Nat} (hw : 1 ≤ w) (hw2 : 2 ≤ w) (hlm : lm ≤ 60) (hP : 2 ≤ P) (hP2 : P ≤ 60) (hcop : ∀ j, 1 ≤ j → j ≤ lm / w → brd ba (j * w) = false → Nat.gcd j P = 1)
    (h5 : (mlt (brd ba) w (lm / w)).length ≤ 5 → ∀ tr le, rep tr (mlt (brd ba) w (lm / w)) → lvs P w (mlt (brd ba) w (lm / w)) le → Q ((mlt (brd ba) w (lm / w)).length : Nat) tr le)
    (h6 : 5 < (mlt (brd ba) w (lm / w)).length → ∀ tr le, Q 6 tr le) :
    ∀ (k t : Nat) (tr le : Int → Int), t + k = lm / w → (mlt (brd ba) w t).length ≤ 5 → rep tr (mlt (brd ba) w t) → lvs P w (mlt (brd ba) w t) le → wp_X2_gather_5 Q ba lm (k + 1) tr le w P ((mlt (brd ba) w t).length : Nat) ((t + 1 : Nat) : Int) := by
  intro k
  have hmono : ∀ t, t ≤ lm / w → (mlt (brd ba) w t).length ≤ (mlt (brd ba) w (lm / w)).length := by
    intro t ht
    obtain ⟨j, hj⟩ := Nat.exists_eq_add_of_le ht
    rw [hj]
    clear hj
    induction j with
    | zero => exact Nat.le_refl _
    | succ j ih => rw [← Nat.add_assoc, mlt, List.length_append]; omega
  induction k with
  | zero =>
    intro t tr le ht hl hr hlv
    rw [wp_X2_gather_5]
    unfold wp_X2_gather_72
    have e : t = lm / w := by omega
    rw [nm_tdiv, ← e]
    refine ⟨fun z => absurd z (by omega), fun _ => ⟨by omega, fun _ => ?_, fun z => absurd z (by omega)⟩⟩
    rw [e] at hl hr hlv ⊢
    exact h5 hl tr le hr hlv
  | succ k ih =>
    intro t tr le ht hl hr hlv
    rw [wp_X2_gather_5]
    unfold wp_X2_gather_72 wp_X2_gather_66
    rw [nm_tdiv]
    have e1 : ((t + 1 : Nat) : Int) + 1 = ((t + 1 + 1 : Nat) : Int) := rfl
    have c1 : ((t + 1 : Nat) : Int) * (w : Int) = (((t + 1) * w : Nat) : Int) := rfl
    have hle : (t + 1) * w ≤ lm := by
      have h1 : (t + 1) * w ≤ lm / w * w := Nat.mul_le_mul_right w (by omega)
      exact Nat.le_trans h1 (Nat.div_mul_le_self lm w)
    have hge : w ≤ (t + 1) * w := Nat.le_mul_of_pos_left w (by omega)
    rw [e1, c1]
    have nx := ih (t + 1)
    rw [mlt] at nx
    have htl : t + 1 ≤ lm / w := by omega
    have hm1 := hmono (t + 1) htl
    rw [mlt] at hm1
    have hcp := hcop (t + 1) (by omega) htl
    have hq : (t + 1) * w / w = t + 1 := Nat.mul_div_cancel _ hw
    have hLW : lm / w ≤ lm := Nat.div_le_self _ _
    generalize hX : (t + 1) * w = X at *
    generalize lm / w = LW at *
    refine ⟨fun z => absurd z (by omega), fun _ => ⟨by omega, fun z => absurd z (by omega), fun _ => ⟨⟨by omega, by omega⟩, isBarred2 (by omega) (by omega) ?_⟩⟩⟩
    by_cases hb : brd ba X = true
    · rw [if_pos hb]
      rw [if_neg (fun z => by rw [hb] at z; exact absurd z (by decide)), List.append_nil] at nx
      exact ⟨fun _ => ⟨⟨by omega, by omega⟩, nx tr le (by omega) hl hr hlv⟩, fun z => absurd z (by omega)⟩
    · have hbf : brd ba X = false := by simpa using hb
      rw [if_neg hb]
      rw [if_pos hbf] at nx hm1
      rw [List.length_append, List.length_singleton] at hm1
      refine ⟨fun z => absurd rfl z, fun _ => ⟨fun z => ⟨⟨by omega, by omega⟩, fun x48 h48 => ⟨by omega, by omega, ?_⟩⟩, fun z => h6 (by omega) tr le⟩⟩
      refine inverse7 (by omega) (by omega) (hcp hbf) (fun s s0 s1 sd => ⟨by omega, by omega, ⟨by omega, by omega⟩, ⟨by omega, by omega⟩, ?_⟩)
      rw [h48]
      have el : ((mlt (brd ba) w t).length : Int) + 1 = (((mlt (brd ba) w t ++ [X]).length : Nat) : Int) := by rw [List.length_append, List.length_singleton]; rfl
      rw [el]
      refine nx _ _ (by omega) (by rw [List.length_append, List.length_singleton]; omega) (rep_add hr) (fun i x hx => ?_)
      rcases Nat.lt_or_ge i (mlt (brd ba) w t).length with u | u
      · rw [List.getElem?_append_left u] at hx
        rw [ups_n (by omega)]
        exact hlv i x hx
      · have hi := (List.getElem?_eq_some_iff.mp hx).1
        rw [List.length_append, List.length_singleton] at hi
        have ei : i = (mlt (brd ba) w t).length := by omega
        subst ei
        rw [List.getElem?_append_right (Nat.le_refl _), Nat.sub_self] at hx
        have hx2 : X = x := by simpa using hx
        subst hx2
        rw [ups_s, hq]
        obtain ⟨S, rfl⟩ := Int.eq_ofNat_of_zero_le s0
        exact ⟨S, rfl, by omega, sd⟩
theorem gather2 {Q : Int → (Int → Int) → (Int → Int) → Prop} {ba : Int} {lm w P : Nat} {tr le : Int → Int} (hw2 : 2 ≤ w) (hlm : lm ≤ 60) (hP : 2 ≤ P) (hP2 : P ≤ 60) (hcop : ∀ j, 1 ≤ j → j ≤ lm / w → brd ba (j * w) = false → Nat.gcd j P = 1)
    (h5 : (mlt (brd ba) w (lm / w)).length ≤ 5 → ∀ tr le, rep tr (mlt (brd ba) w (lm / w)) → lvs P w (mlt (brd ba) w (lm / w)) le → Q ((mlt (brd ba) w (lm / w)).length : Nat) tr le)
    (h6 : 5 < (mlt (brd ba) w (lm / w)).length → ∀ tr le, Q 6 tr le) : wp_X2_gather Q tr le ba lm w P :=
  ⟨lm / w + 1, gat5 (by omega) hw2 hlm hP hP2 hcop h5 h6 (lm / w) 0 tr le (by omega) (by simp [mlt]) (rep_nil _) (fun i x hx => by simp [mlt] at hx)⟩
/-- what a choice leaves -/
def lsm (lv : Nat → Nat) (c : Nat) : Nat → Nat
  | 0 => 0
  | i + 1 => lsm lv c i + (if c.testBit i = true then lv i else 0)
theorem bit32 : ∀ c : Fin 32, ∀ i : Fin 5, land32 (shr32 ((c.1 : Nat) : Int) ((i.1 : Nat) : Int)) 1 = if c.1.testBit i.1 = true then 1 else 0 := by decide +kernel
theorem or32 : ∀ a b : Fin 32, lor32 ((a.1 : Nat) : Int) ((b.1 : Nat) : Int) = ((a.1 ||| b.1 : Nat) : Int) ∧ a.1 ||| b.1 < 32 := by decide +kernel
theorem sh32 : ∀ m : Fin 6, shl32 1 ((m.1 : Nat) : Int) = ((2 ^ m.1 : Nat) : Int) ∧ 2 ^ m.1 ≤ 32 := by decide +kernel
theorem uso24 {Q : Int → Prop} {K : Int → Int → Int → Int → Int → Prop} {le : Int → Int} {lv : Nat → Nat} {many P c : Nat} {due u : Int} (hm : many ≤ 5) (hc : c < 32) (hle : ∀ i, i < many → le i = lv i ∧ lv i < 60)
    (h : wp_X2_usefulOf_64 Q le K many P due u c (lsm lv c many : Nat)) : ∀ (k i : Nat), i + k = many → wp_X2_usefulOf_24 Q le K (k + 1) many P due u c (lsm lv c i : Nat) i := by
  intro k
  have hb : ∀ i, i ≤ many → lsm lv c i ≤ 60 * i := by
    intro i
    induction i with
    | zero => intro _; rw [lsm]; omega
    | succ i ih =>
      intro hi
      have := ih (by omega)
      have := (hle i (by omega)).2
      rw [lsm]
      split <;> omega
  induction k with
  | zero =>
    intro i hi
    have e : i = many := by omega
    subst e
    rw [wp_X2_usefulOf_24]
    exact ⟨fun _ => h, fun z => absurd z (by omega)⟩
  | succ k ih =>
    intro i hi
    rw [wp_X2_usefulOf_24]
    unfold wp_X2_usefulOf_58
    have e1 : (i : Int) + 1 = ((i + 1 : Nat) : Int) := rfl
    have hbit : land32 (shr32 ((c : Nat) : Int) ((i : Nat) : Int)) 1 = if c.testBit i = true then 1 else 0 := bit32 ⟨c, hc⟩ ⟨i, by omega⟩
    obtain ⟨l1, l2⟩ := hle i (by omega)
    have hbi := hb i (by omega)
    rw [e1, hbit, l1]
    have nx := ih (i + 1) (by omega)
    rw [lsm] at nx
    by_cases ht : c.testBit i = true
    · rw [if_pos ht] at nx ⊢
      refine ⟨fun z => absurd z (by omega), fun _ => ⟨fun z => absurd z (by omega), fun _ => ⟨fun z => absurd z (by omega), fun _ => ⟨by omega, by omega, ⟨by omega, by omega⟩, fun x hx => ⟨⟨by omega, by omega⟩, ?_⟩⟩⟩⟩⟩
      rw [hx]
      exact nx
    · rw [if_neg ht] at nx ⊢
      exact ⟨fun z => absurd z (by omega), fun _ => ⟨fun z => absurd z (by omega), fun _ => ⟨fun _ => ⟨⟨by omega, by omega⟩, nx⟩, fun z => absurd rfl z⟩⟩⟩
theorem usefulOf2 {Q : Int → Prop} {le : Int → Int} {lv : Nat → Nat} {many P due : Nat} (hm : many ≤ 5) (hP : 1 ≤ P) (hle : ∀ i, i < many → le i = lv i ∧ lv i < 60)
    (h : ∀ u : Nat, u < 32 → (∀ c i, 1 ≤ c → c < 2 ^ many → lsm lv c many % P = due → c.testBit i = true → u.testBit i = true) → (u ≠ 0 → ∃ c, 1 ≤ c ∧ c < 2 ^ many ∧ lsm lv c many % P = due) → Q u) : wp_X2_usefulOf Q le many P due := by
  obtain ⟨s1, s2⟩ := sh32 ⟨many, by omega⟩
  have s1' : shl32 1 ((many : Nat) : Int) = ((2 ^ many : Nat) : Int) := s1
  have s2' : 2 ^ many ≤ 32 := s2
  have hp1 : 1 ≤ 2 ^ many := Nat.one_le_two_pow
  have loop : ∀ (k c u : Nat), c + k = 2 ^ many → 1 ≤ c → u < 32 → (∀ c' i, 1 ≤ c' → c' < c → lsm lv c' many % P = due → c'.testBit i = true → u.testBit i = true) → (u ≠ 0 → ∃ c, 1 ≤ c ∧ c < 2 ^ many ∧ lsm lv c many % P = due) → wp_X2_usefulOf_6 Q le (k + 1) many P due u c := by
    intro k
    induction k with
    | zero =>
      intro c u hc hc1 hu a1 a2
      rw [wp_X2_usefulOf_6]
      unfold wp_X2_usefulOf_87
      rw [s1']
      refine ⟨fun z => absurd z (by omega), fun _ => ⟨fun _ => h u hu (fun c' i b1 b2 => a1 c' i b1 (by omega)) a2, fun z => absurd z (by omega)⟩⟩
    | succ k ih =>
      intro c u hc hc1 hu a1 a2
      rw [wp_X2_usefulOf_6]
      rw [s1']
      refine ⟨fun z => absurd z (by omega), fun _ => ⟨fun z => absurd z (by omega), fun _ => ⟨many + 1, uso24 hm (by omega) hle ?_ many 0 (by omega)⟩⟩⟩
      unfold wp_X2_usefulOf_64 wp_X2_usefulOf_81
      rw [nm_tmod]
      have e1 : (c : Int) + 1 = ((c + 1 : Nat) : Int) := rfl
      rw [e1]
      refine ⟨by omega, fun z => ⟨⟨by omega, by omega⟩, ih (c + 1) u (by omega) (by omega) hu (fun c' i b1 b2 b3 b4 => ?_) a2⟩, fun z x hx => ⟨⟨by omega, by omega⟩, ?_⟩⟩
      · by_cases ec : c' = c
        · subst ec; exact absurd (by rw [b3]) z
        · exact a1 c' i b1 (by omega) b3 b4
      · have hz : lsm lv c many % P = due := Int.ofNat.inj z
        obtain ⟨o1, o2⟩ := or32 ⟨u, hu⟩ ⟨c, by omega⟩
        have o1' : lor32 ((u : Nat) : Int) ((c : Nat) : Int) = ((u ||| c : Nat) : Int) := o1
        rw [hx, o1']
        refine ih (c + 1) (u ||| c) (by omega) (by omega) o2 (fun c' i b1 b2 b3 b4 => ?_) (fun _ => ⟨c, hc1, by omega, hz⟩)
        rw [Nat.testBit_or]
        by_cases ec : c' = c
        · subst ec; rw [b4, Bool.or_true]
        · rw [a1 c' i b1 (by omega) b3 b4, Bool.true_or]
  refine ⟨2 ^ many - 1 + 1, ?_⟩
  exact loop (2 ^ many - 1) 1 0 (by omega) (Nat.le_refl _) (by omega) (fun c' i b1 b2 => by omega) (fun z => absurd rfl z)
theorem bar2 {Q : Int → Prop} {tr : Int → Int} {ba : Int} {G : List Nat} {u : Nat} (hG : G.length ≤ 5) (hu : u < 32) (hr : rep tr G) (hGb : ∀ x ∈ G, 2 ≤ x ∧ x ≤ 60) (hba : r64 ba)
    (h : ∀ ba', r64 ba' → (∀ v, 2 ≤ v → v ≤ 60 → (brd ba' v = true ↔ brd ba v = true ∨ ∃ i, G[i]? = some v ∧ u.testBit i = false)) → Q ba') : wp_X2_bar Q tr ba (G.length : Nat) u := by
  have loop : ∀ (k i : Nat) (b' : Int), i + k = G.length → r64 b' → (∀ v, 2 ≤ v → v ≤ 60 → (brd b' v = true ↔ brd ba v = true ∨ ∃ j, j < i ∧ G[j]? = some v ∧ u.testBit j = false)) → wp_X2_bar_2 Q tr (k + 1) b' (G.length : Nat) u i := by
    intro k
    induction k with
    | zero =>
      intro i b' hi hb hv
      rw [wp_X2_bar_2]
      unfold wp_X2_bar_44
      refine ⟨fun _ => h b' hb (fun v v1 v2 => ?_), fun z => absurd z (by omega)⟩
      rw [hv v v1 v2]
      constructor
      · rintro (w | ⟨j, _, w⟩)
        · exact Or.inl w
        · exact Or.inr ⟨j, w⟩
      · rintro (w | ⟨j, w⟩)
        · exact Or.inl w
        · exact Or.inr ⟨j, by have := (List.getElem?_eq_some_iff.mp w.1).1; omega, w⟩
    | succ k ih =>
      intro i b' hi hb hv
      rw [wp_X2_bar_2]
      unfold wp_X2_bar_44 wp_X2_bar_38
      have e1 : (i : Int) + 1 = ((i + 1 : Nat) : Int) := rfl
      have hbit : land32 (shr32 ((u : Nat) : Int) ((i : Nat) : Int)) 1 = if u.testBit i = true then 1 else 0 := bit32 ⟨u, hu⟩ ⟨i, by omega⟩
      have hil : i < G.length := by omega
      have hget : G[i]? = some G[i] := List.getElem?_eq_getElem hil
      have htr := hr i _ hget
      have hxb := hGb _ (List.getElem_mem hil)
      rw [e1, hbit, htr]
      generalize G[i] = X at *
      by_cases ht : u.testBit i = true
      · rw [if_pos ht]
        refine ⟨fun z => absurd z (by omega), fun _ => ⟨fun z => absurd z (by omega), fun _ => ⟨fun _ => ⟨⟨by omega, by omega⟩, ih (i + 1) b' (by omega) hb (fun v v1 v2 => ?_)⟩, fun z => absurd z (by omega)⟩⟩⟩
        rw [hv v v1 v2]
        constructor
        · rintro (w | ⟨j, w1, w⟩)
          · exact Or.inl w
          · exact Or.inr ⟨j, by omega, w⟩
        · rintro (w | ⟨j, w1, w2, w3⟩)
          · exact Or.inl w
          · by_cases ej : j = i
            · subst ej; rw [ht] at w3; exact absurd w3 (by decide)
            · exact Or.inr ⟨j, by omega, w2, w3⟩
      · have htf : u.testBit i = false := by simpa using ht
        rw [if_neg ht]
        refine ⟨fun z => absurd z (by omega), fun _ => ⟨fun z => absurd z (by omega), fun _ => ⟨fun z => absurd rfl z, fun _ => ⟨by omega, by omega, bit4 hxb.1 hxb.2 (fun x hx => ⟨⟨by omega, by omega⟩, ih (i + 1) x (by omega) (by rw [hx]; exact r_lor64 _ _) (fun v v1 v2 => ?_)⟩)⟩⟩⟩⟩
        have hbv : brd x v = (brd b' v || decide (v = X)) := by
          unfold brd
          rw [hx, bt_lor, bt_pow (by omega)]
          congr 1
          by_cases e : v = X
          · subst e; rw [decide_eq_true rfl, decide_eq_true rfl]
          · rw [decide_eq_false e, decide_eq_false (by omega)]
        rw [hbv, Bool.or_eq_true, decide_eq_true_iff, hv v v1 v2]
        constructor
        · rintro ((w | ⟨j, w1, w⟩) | w)
          · exact Or.inl w
          · exact Or.inr ⟨j, by omega, w⟩
          · exact Or.inr ⟨i, by omega, by rw [w]; exact hget, htf⟩
        · rintro (w | ⟨j, w1, w2, w3⟩)
          · exact Or.inl (Or.inl w)
          · by_cases ej : j = i
            · subst ej
              rw [hget] at w2
              exact Or.inr (Option.some.inj w2).symm
            · exact Or.inl (Or.inr ⟨j, by omega, w2, w3⟩)
  exact ⟨G.length + 1, loop G.length 0 ba (by omega) hba (fun v _ _ => ⟨fun w => Or.inl w, fun w => by
    rcases w with w | ⟨j, w1, _⟩
    · exact w
    · omega⟩)⟩
