/-! ===== beside, cuts: both sides ===== -/
theorem adj_hop {D : List (List Nat)} {k : Nat} (hD : DD D k) {i : Nat} {l : List Nat} (hl : D[i]? = some l) (t : Nat) : adjD D i t ↔ ∃ (s' : Nat) (tr : Nat × Nat × Nat) (l' : List Nat), s' < 31 ∧ (swN 58)[s']? = some tr ∧ D[t]? = some l' ∧ hop tr l l' := by
  constructor
  · rintro ⟨l2, l', h1, h2, h3⟩
    rw [hl] at h1
    have e := Option.some.inj h1
    subst e
    obtain ⟨tr, htr, hh⟩ := (cut_hop hD (List.mem_of_getElem? hl) (List.mem_of_getElem? h2)).mp h3
    obtain ⟨s', hs'⟩ := List.getElem?_of_mem htr
    have := (List.getElem?_eq_some_iff.mp hs').1
    rw [sw_31] at this
    exact ⟨s', tr, l', this, hs', h2, hh⟩
  · rintro ⟨s', tr, l', _, h1, h2, h3⟩
    exact ⟨l, l', hl, h2, (cut_hop hD (List.mem_of_getElem? hl) (List.mem_of_getElem? h2)).mpr ⟨tr, List.mem_of_getElem? h1, h3⟩⟩
theorem hop_idx {D : List (List Nat)} {l : List Nat} {s s' t : Nat} {tr tr' : Nat × Nat × Nat} {l' l'' : List Nat} (h1 : (swN 58)[s]? = some tr) (h2 : (swN 58)[s']? = some tr') (h3 : D[t]? = some l') (h4 : D[t]? = some l'') (h5 : hop tr l l') (h6 : hop tr' l l'') : s = s' := by
  rw [h3] at h4
  have e := Option.some.inj h4
  subst e
  have := hop_one (List.mem_of_getElem? h1) (List.mem_of_getElem? h2) h5 h6
  subst this
  exact (List.getElem?_inj (List.getElem?_eq_some_iff.mp h1).1 sw_nd).mp (by rw [h1, h2])
theorem neighbours1 {Q : Int → Prop} {D : List (List Nat)} {k : Nat} {rows ones twos : Int → Int} {sw : Int} (hD : DD D k) (hrow : rowsOf D rows) (hS : SR (swN 58) ones twos sw) {i : Nat} {l : List Nat} (hl : D[i]? = some l)
    (h : ∀ W : List Nat, W.Nodup → (∀ t, t ∈ W ↔ adjD D i t) → Q (W.length : Nat)) : wp_X1_neighbours Q rows ones twos sw (D.length : Nat) k i := by
  have hi := (List.getElem?_eq_some_iff.mp hl).1
  have hDl := hD.1
  obtain ⟨hg, hu⟩ := hD.2.2.2.1 l (List.mem_of_getElem? hl)
  have hsw := hS.1
  rw [sw_31] at hsw
  have loop : ∀ (c s : Nat) (W : List Nat), s + c = 31 → W.Nodup → W.length ≤ s → (∀ t, t ∈ W ↔ ∃ (s' : Nat) (tr : Nat × Nat × Nat) (l' : List Nat), s' < s ∧ (swN 58)[s']? = some tr ∧ D[t]? = some l' ∧ hop tr l l') → wp_X1_neighbours_4 Q rows ones twos sw (D.length : Nat) k (c + 1) i (W.length : Nat) s := by
    intro c
    induction c with
    | zero =>
      intro s W hs hW hWl hm
      have e : s = 31 := by omega
      subst e
      rw [wp_X1_neighbours_4]
      exact ⟨fun _ => h W hW (fun t => by rw [hm t, adj_hop hD hl]), fun z => absurd z (by omega)⟩
    | succ c ih =>
      intro s W hs hW hWl hm
      have hsl : s < (swN 58).length := by rw [sw_31]; omega
      have hget : (swN 58)[s]? = some (swN 58)[s] := List.getElem?_eq_getElem hsl
      have hok := sw_ok _ (List.mem_of_getElem? hget)
      generalize (swN 58)[s] = tr at *
      rw [wp_X1_neighbours_4]
      unfold wp_X1_neighbours_28
      have e2 : (s : Int) + 1 = ((s + 1 : Nat) : Int) := rfl
      rw [e2]
      refine ⟨fun z => absurd z (by omega), fun _ => at1 (by omega) (across1 hD hrow hS (by rw [sw_31]; omega) (hrow i l hl) hu hg.2.2 hget hok (fun t l' hl' hh => ⟨fun z => absurd z (by omega), fun _ => ⟨⟨by omega, by omega⟩, ⟨by omega, by omega⟩, ?_⟩⟩) (fun hno => ⟨fun _ => ⟨⟨by omega, by omega⟩, ?_⟩, fun z => absurd z (by omega)⟩))⟩
      · have hn := ih (s + 1) (W ++ [t]) (by omega) (by
          rw [List.nodup_append]
          refine ⟨hW, List.nodup_cons.mpr ⟨by simp, List.nodup_nil⟩, fun a ha b hb => ?_⟩
          have eb := List.mem_singleton.mp hb
          subst eb
          intro eab
          subst eab
          obtain ⟨s', tr', l2, z1, z2, z3, z4⟩ := (hm a).mp ha
          have := hop_idx hget z2 hl' z3 hh z4
          omega) (by rw [List.length_append, List.length_singleton]; omega) (fun x => by
          rw [List.mem_append, List.mem_singleton, hm]
          constructor
          · rintro (⟨s', tr', l2, z1, z2, z3, z4⟩ | z)
            · exact ⟨s', tr', l2, by omega, z2, z3, z4⟩
            · subst z
              exact ⟨s, tr, l', by omega, hget, hl', hh⟩
          · rintro ⟨s', tr', l2, z1, z2, z3, z4⟩
            by_cases es : s' = s
            · subst es
              rw [hget] at z2
              have := Option.some.inj z2
              subst this
              have hd := hD.2.2.2.1 l' (List.mem_of_getElem? hl')
              have hd2 := hD.2.2.2.1 l2 (List.mem_of_getElem? z3)
              have := up_ext l2 l' hd2.2 hd.2 (fun y => by rw [z4.2 y, hh.2 y])
              subst this
              exact Or.inr (DD_inj hD z3 hl')
            · exact Or.inl ⟨s', tr', l2, by omega, z2, z3, z4⟩)
        rw [List.length_append, List.length_singleton] at hn
        exact hn
      · refine ih (s + 1) W (by omega) hW (by omega) (fun x => ?_)
        rw [hm]
        constructor
        · rintro ⟨s', tr', l2, z1, z2, z3, z4⟩
          exact ⟨s', tr', l2, by omega, z2, z3, z4⟩
        · rintro ⟨s', tr', l2, z1, z2, z3, z4⟩
          by_cases es : s' = s
          · subst es
            rw [hget] at z2
            have := Option.some.inj z2
            subst this
            exact absurd z4 (hno x l2 z3)
          · exact ⟨s', tr', l2, by omega, z2, z3, z4⟩
  exact ⟨_, loop 31 0 [] (by omega) List.nodup_nil (by simp) (fun t => by
    constructor
    · intro z; simp at z
    · rintro ⟨s', _, _, z, _⟩; omega)⟩
theorem beside28 {Q : Int → Prop} {D : List (List Nat)} {k : Nat} {ma sh st : Int → Int} (hD : DD D k) (hS : Stor D ma sh st) {i : Nat} {l : List Nat} (hl : D[i]? = some l)
    (h : ∀ W : List Nat, W.Nodup → (∀ t, t ∈ W ↔ adjD D i t) → Q (W.length : Nat)) : ∃ n0, wp_X8_beside_28 Q (D.length : Nat) ma st n0 i 0 0 := by
  have hDl := hD.1
  have loop : ∀ (c s : Nat) (W : List Nat), s + c = D.length → W.Nodup → W.length ≤ s → (∀ t, t ∈ W ↔ t < s ∧ adjD D i t) → wp_X8_beside_28 Q (D.length : Nat) ma st (c + 1) i (W.length : Nat) s := by
    intro c
    induction c with
    | zero =>
      intro s W hs hW hWl hm
      rw [wp_X8_beside_28]
      refine ⟨fun _ => h W hW (fun t => ?_), fun z => absurd z (by omega)⟩
      rw [hm t]
      constructor
      · exact fun z => z.2
      · intro z
        obtain ⟨_, l', _, z2, _⟩ := z
        have := (List.getElem?_eq_some_iff.mp z2).1
        exact ⟨by omega, ⟨_, l', by assumption, z2, by assumption⟩⟩
    | succ c ih =>
      intro s W hs hW hWl hm
      have hget : D[s]? = some D[s] := List.getElem?_eq_getElem (by omega)
      generalize D[s] = l' at hget
      rw [wp_X8_beside_28]
      unfold wp_X8_beside_51
      have e2 : (s : Int) + 1 = ((s + 1 : Nat) : Int) := rfl
      rw [e2]
      refine ⟨fun z => absurd z (by omega), fun _ => isCut8 hD hS hl hget (fun hc => ⟨fun z => absurd z (by omega), fun _ => ⟨⟨by omega, by omega⟩, fun x hx => ⟨⟨by omega, by omega⟩, ?_⟩⟩⟩) (fun hc => ⟨fun _ => ⟨⟨by omega, by omega⟩, fun x hx => ⟨⟨by omega, by omega⟩, ?_⟩⟩, fun z => absurd rfl z⟩)⟩
      · have hn := ih (s + 1) (W ++ [s]) (by omega) (by
          rw [List.nodup_append]
          refine ⟨hW, List.nodup_cons.mpr ⟨by simp, List.nodup_nil⟩, fun a ha b hb => ?_⟩
          have eb := List.mem_singleton.mp hb
          have := (hm a).mp ha
          omega) (by rw [List.length_append, List.length_singleton]; omega) (fun t => by
          rw [List.mem_append, List.mem_singleton, hm]
          constructor
          · rintro (⟨z1, z2⟩ | z)
            · exact ⟨by omega, z2⟩
            · subst z
              exact ⟨by omega, l, l', hl, hget, hc⟩
          · rintro ⟨z1, z2⟩
            by_cases e : t = s
            · exact Or.inr e
            · exact Or.inl ⟨by omega, z2⟩)
        rw [List.length_append, List.length_singleton] at hn
        rw [hx]
        exact hn
      · rw [hx, Int.add_zero]
        refine ih (s + 1) W (by omega) hW (by omega) (fun t => ?_)
        rw [hm]
        constructor
        · rintro ⟨z1, z2⟩; exact ⟨by omega, z2⟩
        · rintro ⟨z1, z2⟩
          refine ⟨?_, z2⟩
          rcases Nat.lt_or_ge t s with w | w
          · exact w
          · have e : t = s := by omega
            subst e
            obtain ⟨a1, a2, b1, b2, b3⟩ := z2
            rw [hl] at b1
            rw [hget] at b2
            rw [← Option.some.inj b1, ← Option.some.inj b2] at b3
            exact absurd b3 hc
  exact ⟨_, loop D.length 0 [] (by omega) List.nodup_nil (by simp) (fun t => by
    constructor
    · intro z; simp at z
    · rintro ⟨z, _⟩; omega)⟩
theorem beside_ok {rows di re ones twos : Int → Int} {th sz mo so lo en fo sw : Int} {ma sh st : Int → Int} (hF : FI rows di re th sz mo so lo en fo ma sh st) (hS : SR (swN 58) ones twos sw) (i : Int) {K : Int → Int → Prop} (hK : ∀ v, K v v) :
    wp_X7_beside (fun v => wp_X8_beside (fun v2 => K v v2) fo ma st i) rows ones twos sw th sz mo i := by
  unfold wp_X7_beside wp_X7_beside_27 wp_X8_beside wp_X8_beside_21 wp_X1_isThere wp_X1_size
  refine ⟨fun h => ?_, fun h => ⟨fun z => absurd z h, fun _ => hK _⟩⟩
  rcases hF with ⟨rfl, rfl, rfl⟩ | ⟨rfl, D, k, hD, rfl, rfl, rfl, hrow, hSt, -⟩
  · exact ⟨Or.inl rfl, fun _ => ⟨fun _ => ⟨fun _ => hK _, fun z => absurd z (by omega)⟩, fun z => absurd h z⟩, fun z => absurd rfl z⟩
  · obtain ⟨i', rfl⟩ : ∃ i' : Nat, i = i' := ⟨i.toNat, by omega⟩
    refine ⟨Or.inr rfl, fun z => absurd z (by omega), fun _ => ⟨fun hi => ?_, fun hi => ⟨fun _ => ⟨fun z => absurd z (by omega), fun _ => ⟨fun z => absurd z hi, fun _ => hK _⟩⟩, fun z => absurd h z⟩⟩⟩
    obtain ⟨l, hl, _⟩ := DD_get hD (show i' < D.length by omega)
    refine neighbours1 hD hrow hS hl (fun W hW hm => ⟨fun _ => ⟨fun z => absurd z (by omega), fun _ => ⟨fun _ => beside28 hD hSt hl (fun W' hW' hm' => ?_), fun z => absurd hi z⟩⟩, fun z => absurd h z⟩)
    rw [same_len hW hW' (fun x => by rw [hm, hm'])]
    exact hK _
theorem lookAround1 {Q : (Int → Int) → (Int → Int) → Int → Prop} {D : List (List Nat)} {k : Nat} {rows ones twos : Int → Int} {sw : Int} (hD : DD D k) (hrow : rowsOf D rows) (hS : SR (swN 58) ones twos sw) {src hd u : Nat} {di re : Int → Int} {qu : List Nat} (H : BF D.length (adjD D) src di qu hd) (hu : qu[hd]? = some u) (hr : rep re qu)
    (h : ∀ (di' re' : Int → Int) (qu' : List Nat), BF D.length (adjD D) src di' qu' (hd + 1) → rep re' qu' → Q di' re' (qu'.length : Nat)) : wp_X1_lookAround Q rows ones twos di re sw (D.length : Nat) k (qu.length : Nat) u := by
  have hDl := hD.1
  have huN := (H.2.1 u (List.mem_of_getElem? hu)).1
  obtain ⟨l, hl, _, hg, hul, _⟩ := DD_get hD huN
  have hsw := hS.1
  rw [sw_31] at hsw
  have loop : ∀ (c s : Nat) (di re : Int → Int) (qu : List Nat), s + c = 31 → BF D.length (adjD D) src di qu hd → qu[hd]? = some u → rep re qu → (∀ (s' t : Nat) (tr : Nat × Nat × Nat) (l' : List Nat), s' < s → (swN 58)[s']? = some tr → D[t]? = some l' → hop tr l l' → 0 ≤ di t) → wp_X1_lookAround_2 Q rows ones twos sw (D.length : Nat) k (c + 1) di re (qu.length : Nat) u s := by
    intro c
    induction c with
    | zero =>
      intro s di re qu hs H hu hr hm
      have e : s = 31 := by omega
      subst e
      rw [wp_X1_lookAround_2]
      refine ⟨fun _ => h di re qu (BF_next H hu (fun w hw => ?_)) hr, fun z => absurd z (by omega)⟩
      obtain ⟨s', tr, l', z1, z2, z3, z4⟩ := (adj_hop hD hl w).mp hw
      exact ⟨hm s' w tr l' z1 z2 z3 z4, (List.getElem?_eq_some_iff.mp z3).1⟩
    | succ c ih =>
      intro s di re qu hs H hu hr hm
      have hsl : s < (swN 58).length := by rw [sw_31]; omega
      have hget : (swN 58)[s]? = some (swN 58)[s] := List.getElem?_eq_getElem hsl
      have hok := sw_ok _ (List.mem_of_getElem? hget)
      generalize (swN 58)[s] = tr at *
      have hfu := H.2.2.2.2.2.2.1 hd u hu
      have hfu0 := (H.2.1 u (List.mem_of_getElem? hu)).2.1
      have hql := BF_len2 H
      have hhd := (List.getElem?_eq_some_iff.mp hu).1
      have e2 : (s : Int) + 1 = ((s + 1 : Nat) : Int) := rfl
      rw [wp_X1_lookAround_2]
      unfold wp_X1_lookAround_38 wp_X1_reach wp_X1_reach_61
      rw [e2]
      refine ⟨fun z => absurd z (by omega), fun _ => at1 (by omega) (across1 hD hrow hS (by rw [sw_31]; omega) (hrow u l hl) hul hg.2.2 hget hok (fun t l' hl' hh => ⟨fun z => absurd z (by omega), fun _ => ⟨by omega, by omega, ⟨by omega, by omega⟩, ?_⟩⟩) (fun hno => ⟨fun _ => ⟨⟨by omega, by omega⟩, ?_⟩, fun z => absurd z (by omega)⟩))⟩
      · have htN := (List.getElem?_eq_some_iff.mp hl').1
        have hadj : adjD D u t := (adj_hop hD hl t).mpr ⟨s, tr, l', by omega, hget, hl', hh⟩
        by_cases hneg : di t < 0
        · have hlt := BF_len H htN hneg
          refine ⟨fun z => absurd z (by omega), fun _ => ⟨fun z => absurd z (by omega), fun _ => ⟨fun z => absurd z (by omega), fun _ => ⟨by omega, by omega, fun z => absurd z (by omega), fun _ => ⟨by omega, by omega, by omega, by omega, ⟨by omega, by omega⟩, fun x hx => ⟨⟨by omega, by omega⟩, ?_⟩⟩⟩⟩⟩⟩
          rw [hx]
          have hn := ih (s + 1) (ups di t (di u + 1)) (ups re (qu.length : Nat) t) (qu ++ [t]) (by omega) (BF_add H hu hadj htN hneg) (by rw [List.getElem?_append_left hhd]; exact hu) (rep_add hr) (fun s' y tr' l2 z1 z2 z3 z4 => by
            by_cases ey : y = t
            · rw [ey, ups_s]; omega
            · rw [ups_n (by omega)]
              by_cases es : s' = s
              · subst es
                rw [hget] at z2
                have := Option.some.inj z2
                subst this
                have hd1 := hD.2.2.2.1 l' (List.mem_of_getElem? hl')
                have hd2 := hD.2.2.2.1 l2 (List.mem_of_getElem? z3)
                have := up_ext l2 l' hd2.2 hd1.2 (fun y => by rw [z4.2 y, hh.2 y])
                subst this
                exact absurd (DD_inj hD z3 hl') ey
              · exact hm s' y tr' l2 (by omega) z2 z3 z4)
          rw [List.length_append, List.length_singleton] at hn
          exact hn
        · have hn := ih (s + 1) di re qu (by omega) H hu hr (fun s' y tr' l2 z1 z2 z3 z4 => by
            by_cases es : s' = s
            · subst es
              rw [hget] at z2
              have := Option.some.inj z2
              subst this
              have hd1 := hD.2.2.2.1 l' (List.mem_of_getElem? hl')
              have hd2 := hD.2.2.2.1 l2 (List.mem_of_getElem? z3)
              have := up_ext l2 l' hd2.2 hd1.2 (fun y => by rw [z4.2 y, hh.2 y])
              subst this
              rw [DD_inj hD z3 hl']
              omega
            · exact hm s' y tr' l2 (by omega) z2 z3 z4)
          exact ⟨fun z => absurd z (by omega), fun _ => ⟨fun z => absurd z (by omega), fun _ => ⟨fun _ => ⟨⟨by omega, by omega⟩, hn⟩, fun _ => ⟨by omega, by omega, fun _ => ⟨⟨by omega, by omega⟩, hn⟩, fun z => absurd (show 0 ≤ di t by omega) z⟩⟩⟩⟩
      · refine ih (s + 1) di re qu (by omega) H hu hr (fun s' y tr' l2 z1 z2 z3 z4 => ?_)
        by_cases es : s' = s
        · subst es
          rw [hget] at z2
          have := Option.some.inj z2
          subst this
          exact absurd z4 (hno y l2 z3)
        · exact hm s' y tr' l2 (by omega) z2 z3 z4
  exact ⟨_, loop 31 0 di re qu (by omega) H hu hr (fun s' _ _ _ z => by omega)⟩
theorem few40 {Q : Int → (Int → Int) → (Int → Int) → Int → Int → Int → Prop} {D : List (List Nat)} {k : Nat} {rows ones twos : Int → Int} {sw : Int} (hD : DD D k) (hrow : rowsOf D rows) (hS : SR (swN 58) ones twos sw) {src j : Nat} (hj : j < D.length)
    (h : ∀ (di re : Int → Int) (qu : List Nat) (hd : Nat), BF D.length (adjD D) src di qu hd → rep re qu → (0 ≤ di j ∨ hd = qu.length) → Q (if 0 ≤ di j then di j else -4) di re src hd (qu.length : Nat)) :
    ∀ (c hd : Nat) (di re : Int → Int) (qu : List Nat), hd + c = D.length → BF D.length (adjD D) src di qu hd → rep re qu → wp_X1_fewestSteps_40 Q rows ones twos sw (D.length : Nat) k (c + 1) di re src hd (qu.length : Nat) j := by
  have hDl := hD.1
  have fin : ∀ (di re : Int → Int) (qu : List Nat) (hd : Nat), BF D.length (adjD D) src di qu hd → rep re qu → (0 ≤ di j ∨ hd = qu.length) → wp_X1_fewestSteps_98 Q rows ones twos sw (D.length : Nat) k di re src hd (qu.length : Nat) j := by
    intro di re qu hd H hr he
    have := h di re qu hd H hr he
    unfold wp_X1_fewestSteps_98 wp_X1_fewestSteps_118
    refine ⟨by omega, by omega, fun z => ⟨by omega, by omega, ?_⟩, fun z => ?_⟩
    · rw [if_pos z] at this; exact this
    · rw [if_neg z] at this; exact this
  intro c
  induction c with
  | zero =>
    intro hd di re qu hc H hr
    have hql := BF_len2 H
    have hhd := H.2.2.2.2.2.1
    rw [wp_X1_fewestSteps_40]
    refine ⟨by omega, by omega, fun z => fin di re qu hd H hr (Or.inl z), fun z => ⟨fun w => fin di re qu hd H hr (Or.inr (by omega)), fun w => absurd w (by omega)⟩⟩
  | succ c ih =>
    intro hd di re qu hc H hr
    have hql := BF_len2 H
    have hhd := H.2.2.2.2.2.1
    rw [wp_X1_fewestSteps_40]
    refine ⟨by omega, by omega, fun z => fin di re qu hd H hr (Or.inl z), fun z => ⟨fun w => fin di re qu hd H hr (Or.inr (by omega)), fun w => ⟨fun y => absurd y (by omega), fun _ => ⟨by omega, by omega, ?_⟩⟩⟩⟩
    have hu : qu[hd]? = some qu[hd] := List.getElem?_eq_getElem (by omega)
    rw [hr hd _ hu]
    refine lookAround1 hD hrow hS H hu hr (fun di' re' qu' H' hr' => ⟨⟨by omega, by omega⟩, fun x hx => ?_⟩)
    rw [hx]
    exact ih (hd + 1) di' re' qu' (by omega) H' hr'
theorem cuts108 {Q : Int → (Int → Int) → (Int → Int) → Prop} {D : List (List Nat)} {k : Nat} {ma sh st : Int → Int} (hD : DD D k) (hS : Stor D ma sh st) {src hd u : Nat} {K : (Int → Int) → (Int → Int) → Int → Int → Int → Prop} {j hd1 : Int}
    (h : ∀ (far qa : Int → Int) (qu : List Nat), BF D.length (adjD D) src far qu (hd + 1) → rep qa qu → (∀ v : Nat, v < D.length → far v < 0 → far v = -4) → K far qa j hd1 (qu.length : Nat)) :
    ∀ (c s : Nat) (far qa : Int → Int) (qu : List Nat), s + c = D.length → BF D.length (adjD D) src far qu hd → qu[hd]? = some u → rep qa qu → (∀ v : Nat, v < D.length → far v < 0 → far v = -4) → (∀ t : Nat, t < s → adjD D u t → 0 ≤ far t) → wp_X8_cuts_108 Q (D.length : Nat) ma st K (c + 1) far qa j hd1 (qu.length : Nat) u s := by
  have hDl := hD.1
  intro c
  induction c with
  | zero =>
    intro s far qa qu hs H hu hr h4 hm
    rw [wp_X8_cuts_108]
    refine ⟨fun _ => h far qa qu (BF_next H hu (fun w hw => ?_)) hr h4, fun z => absurd z (by omega)⟩
    have hw2 := hw
    obtain ⟨_, l', _, z2, _⟩ := hw2
    have := (List.getElem?_eq_some_iff.mp z2).1
    exact ⟨hm w (by omega) hw, this⟩
  | succ c ih =>
    intro s far qa qu hs H hu hr h4 hm
    have hfu := H.2.2.2.2.2.2.1 hd u hu
    have hfu0 := H.2.1 u (List.mem_of_getElem? hu)
    have hhd := (List.getElem?_eq_some_iff.mp hu).1
    have hql := BF_len2 H
    obtain ⟨l, hl, _⟩ := DD_get hD hfu0.1
    obtain ⟨l', hl', _⟩ := DD_get hD (show s < D.length by omega)
    have e2 : (s : Int) + 1 = ((s + 1 : Nat) : Int) := rfl
    rw [wp_X8_cuts_108]
    unfold wp_X8_cuts_166
    rw [e2]
    have step : ∀ far qa qu, BF D.length (adjD D) src far qu hd → qu[hd]? = some u → rep qa qu → (∀ v : Nat, v < D.length → far v < 0 → far v = -4) → (∀ t : Nat, t < s → adjD D u t → 0 ≤ far t) → (adjD D u s → 0 ≤ far s) → r32 ((s + 1 : Nat) : Int) ∧ wp_X8_cuts_108 Q (D.length : Nat) ma st K (c + 1) far qa j hd1 (qu.length : Nat) u ((s + 1 : Nat) : Int) := by
      intro far qa qu H hu hr h4 hm hs1
      refine ⟨⟨by omega, by omega⟩, ih (s + 1) far qa qu (by omega) H hu hr h4 (fun t ht ha => ?_)⟩
      by_cases e : t = s
      · subst e; exact hs1 ha
      · exact hm t (by omega) ha
    refine ⟨fun z => absurd z (by omega), fun _ => ⟨by omega, by omega, fun z => step far qa qu H hu hr h4 hm (fun _ => z), fun z => isCut8 hD hS hl hl' (fun hc => ⟨fun y => absurd y (by omega), fun _ => ⟨by omega, by omega, ⟨by omega, by omega⟩, fun x hx => ⟨by omega, by omega, by omega, ?_⟩⟩⟩) (fun hc => ⟨fun _ => step far qa qu H hu hr h4 hm (fun ha => ?_), fun y => absurd rfl y⟩)⟩⟩
    · have hneg : far s < 0 := by omega
      have hlt := BF_len H (show s < D.length by omega) hneg
      have hst := step (ups far s (far u + 1)) (ups qa (qu.length : Nat) s) (qu ++ [s]) (BF_add H hu ⟨l, l', hl, hl', hc⟩ (by omega) hneg) (by rw [List.getElem?_append_left hhd]; exact hu) (rep_add hr) (fun v hv hn => by
        by_cases e : v = s
        · rw [e, ups_s] at hn; omega
        · rw [ups_n (by omega)] at hn ⊢; exact h4 v hv hn) (fun t ht ha => by rw [ups_n (by omega)]; exact hm t ht ha) (fun _ => by rw [ups_s]; omega)
      rw [List.length_append, List.length_singleton] at hst
      rw [hx]
      exact ⟨by omega, ⟨by omega, by omega⟩, hst⟩
    · obtain ⟨a1, a2, b1, b2, b3⟩ := ha
      rw [hl] at b1
      rw [hl'] at b2
      rw [← Option.some.inj b1, ← Option.some.inj b2] at b3
      exact absurd b3 hc
theorem cuts79 {Q : Int → (Int → Int) → (Int → Int) → Prop} {D : List (List Nat)} {k : Nat} {ma sh st : Int → Int} (hD : DD D k) (hS : Stor D ma sh st) {src j : Nat} (hj : j < D.length)
    (h : ∀ (far qa : Int → Int) (qu : List Nat) (hd : Nat), BF D.length (adjD D) src far qu hd → (0 ≤ far j ∨ hd = qu.length) → Q (if 0 ≤ far j then far j else -4) far qa) :
    ∀ (c hd : Nat) (far qa : Int → Int) (qu : List Nat), hd + c = D.length → BF D.length (adjD D) src far qu hd → rep qa qu → (∀ v : Nat, v < D.length → far v < 0 → far v = -4) → wp_X8_cuts_79 Q (D.length : Nat) ma st (c + 1) far qa j hd (qu.length : Nat) := by
  have hDl := hD.1
  have fin : ∀ (far qa : Int → Int) (qu : List Nat) (hd : Nat), BF D.length (adjD D) src far qu hd → (∀ v : Nat, v < D.length → far v < 0 → far v = -4) → (0 ≤ far j ∨ hd = qu.length) → wp_X8_cuts_175 Q (D.length : Nat) ma st far qa j := by
    intro far qa qu hd H h4 he
    have := h far qa qu hd H he
    refine ⟨by omega, by omega, ?_⟩
    by_cases z : 0 ≤ far j
    · rw [if_pos z] at this; exact this
    · rw [if_neg z, ← h4 j hj (by omega)] at this; exact this
  intro c
  induction c with
  | zero =>
    intro hd far qa qu hc H hr h4
    have hql := BF_len2 H
    have hhd := H.2.2.2.2.2.1
    rw [wp_X8_cuts_79]
    exact ⟨fun _ => fin far qa qu hd H h4 (Or.inr (by omega)), fun z => absurd z (by omega)⟩
  | succ c ih =>
    intro hd far qa qu hc H hr h4
    have hql := BF_len2 H
    have hhd := H.2.2.2.2.2.1
    rw [wp_X8_cuts_79]
    refine ⟨fun z => fin far qa qu hd H h4 (Or.inr (by omega)), fun z => ⟨by omega, by omega, fun y => fin far qa qu hd H h4 (Or.inl y), fun y => ⟨by omega, by omega, fun x hx => ⟨⟨by omega, by omega⟩, D.length + 1, ?_⟩⟩⟩⟩
    have hu : qu[hd]? = some qu[hd] := List.getElem?_eq_getElem (by omega)
    rw [hx, hr hd _ hu]
    refine cuts108 hD hS (hd := hd) (fun far' qa' qu' H' hr' h4' => ?_) D.length 0 far qa qu (by omega) H hu hr h4 (fun t z => by omega)
    exact ih (hd + 1) far' qa' qu' (by omega) H' hr' h4'
theorem cuts38 {Q : Int → (Int → Int) → (Int → Int) → Prop} {D : List (List Nat)} {k : Nat} {ma sh st : Int → Int} (hD : DD D k) (hS : Stor D ma sh st) {src j : Nat} (hsrc : src < D.length) (hj : j < D.length)
    (h : ∀ (far qa : Int → Int) (qu : List Nat) (hd : Nat), BF D.length (adjD D) src far qu hd → (0 ≤ far j ∨ hd = qu.length) → Q (if 0 ≤ far j then far j else -4) far qa) (far qa : Int → Int) : ∃ n0, wp_X8_cuts_38 Q (D.length : Nat) ma st n0 far qa src j 0 := by
  have hDl := hD.1
  have loop : ∀ (c i : Nat) (far : Int → Int), i + c = D.length → (∀ v : Nat, v < i → far v = -4) → wp_X8_cuts_38 Q (D.length : Nat) ma st (c + 1) far qa src j i := by
    intro c
    induction c with
    | zero =>
      intro i far hi hf
      rw [wp_X8_cuts_38]
      refine ⟨fun _ => ⟨by omega, by omega, D.length + 1, ?_⟩, fun z => absurd z (by omega)⟩
      have hr : rep (ups qa 0 src) [src] := fun a b hab => by
        cases a with
        | zero =>
          have e : src = b := by simpa using hab
          rw [← e]
          exact ups_s
        | succ a => simp at hab
      exact cuts79 hD hS hj h D.length 0 (ups far src 0) (ups qa 0 src) [src] (by omega) (BF_init hsrc (fun v hv => by rw [hf v (by omega)]; omega)) hr (fun v hv hn => by
        by_cases e : v = src
        · rw [e, ups_s] at hn; omega
        · rw [ups_n (by omega)]; exact hf v (by omega))
    | succ c ih =>
      intro i far hi hf
      rw [wp_X8_cuts_38]
      refine ⟨fun z => absurd z (by omega), fun _ => ⟨by omega, by omega, ⟨by omega, by omega⟩, ih (i + 1) (ups far i (-4)) (by omega) (fun v hv => ?_)⟩⟩
      by_cases e : v = i
      · rw [e, ups_s]
      · rw [ups_n (by omega)]; exact hf v (by omega)
  exact ⟨_, loop D.length 0 far (by omega) (fun v z => by omega)⟩
theorem cuts_ok {rows di re ones twos : Int → Int} {th sz mo so lo en fo sw : Int} {ma sh st far qa : Int → Int} (hF : FI rows di re th sz mo so lo en fo ma sh st) (hS : SR (swN 58) ones twos sw) (i j : Int) {K : Int → (Int → Int) → (Int → Int) → Int → Int → Int → Int → (Int → Int) → (Int → Int) → Prop}
    (hK : ∀ v di re so lo en far qa, FI rows di re th sz mo so lo en fo ma sh st → K v di re so lo en v far qa) :
    wp_X7_cuts (fun v di re so lo en => wp_X8_cuts (fun v2 far qa => K v di re so lo en v2 far qa) fo ma st far qa i j) rows ones twos di re sw th sz mo so lo en i j := by
  unfold wp_X7_cuts wp_X7_cuts_8 wp_X7_cuts_42 wp_X8_cuts wp_X8_cuts_8 wp_X8_cuts_33 wp_X1_isThere wp_X1_size
  refine ⟨fun h => ⟨fun _ => hK _ _ _ _ _ _ _ _ hF, fun z => absurd h z⟩, fun h => ⟨fun hj => ?_, fun hj => ⟨fun z => absurd z h, fun _ => ⟨fun z => absurd z hj, fun _ => hK _ _ _ _ _ _ _ _ hF⟩⟩⟩⟩
  have hF' := hF
  rcases hF with ⟨rfl, rfl, rfl⟩ | ⟨rfl, D, k, hD, rfl, rfl, rfl, hrow, hSt, hB⟩
  · exact ⟨Or.inl rfl, fun _ => ⟨fun z => absurd z h, fun _ => ⟨fun _ => ⟨fun _ => hK _ _ _ _ _ _ _ _ hF', fun z => absurd z (by omega)⟩, fun z => absurd hj z⟩⟩, fun z => absurd rfl z⟩
  · have hDl := hD.1
    obtain ⟨i', rfl⟩ : ∃ i' : Nat, i = i' := ⟨i.toNat, by omega⟩
    obtain ⟨j', rfl⟩ : ∃ j' : Nat, j = j' := ⟨j.toNat, by omega⟩
    refine ⟨Or.inr rfl, fun z => absurd z (by omega), fun _ => ⟨fun hi => ⟨fun z => absurd z h, fun _ => ⟨fun _ => ⟨fun z => absurd z (by omega), fun _ => ⟨fun _ => hK _ _ _ _ _ _ _ _ hF', fun z => absurd hi z⟩⟩, fun z => absurd hj z⟩⟩, fun hi => ⟨fun hj2 => ?_, fun hj2 => ⟨fun z => absurd z h, fun _ => ⟨fun _ => ⟨fun z => absurd z (by omega), fun _ => ⟨fun z => absurd z hi, fun _ => ⟨fun z => absurd z hj2, fun _ => hK _ _ _ _ _ _ _ _ hF'⟩⟩⟩, fun z => absurd hj z⟩⟩⟩⟩⟩
    have hiN : i' < D.length := by omega
    have hjN : j' < D.length := by omega
    have fin : ∀ (di re : Int → Int) (qu : List Nat) (hd : Nat), BF D.length (adjD D) i' di qu hd → rep re qu → (0 ≤ di j' ∨ hd = qu.length) → wp_X8_cuts (fun v2 far qa => K (if 0 ≤ di j' then di j' else -4) di re i' hd (qu.length : Nat) v2 far qa) (D.length : Nat) ma st far qa i' j' := by
      intro di re qu hd H hr he
      unfold wp_X8_cuts wp_X8_cuts_8 wp_X8_cuts_33
      refine ⟨fun z => absurd z h, fun _ => ⟨fun _ => ⟨fun z => absurd z (by omega), fun _ => ⟨fun z => absurd z hi, fun _ => ⟨fun _ => ?_, fun z => absurd hj2 z⟩⟩⟩, fun z => absurd hj z⟩⟩
      refine cuts38 hD hSt hiN hjN (fun far' qa' qu' hd' H' he' => ?_) far qa
      rw [BF_two hjN H' H he' he]
      exact hK _ _ _ _ _ _ _ _ (Or.inr ⟨rfl, D, k, hD, rfl, rfl, rfl, hrow, hSt, Or.inr ⟨i', hd, qu, rfl, rfl, rfl, hr, hiN, H⟩⟩)
    have fin2 := few40 hD hrow hS (src := i') hjN (Q := fun v di re so lo en => wp_X8_cuts (fun v2 far qa => K v di re so lo en v2 far qa) (D.length : Nat) ma st far qa i' j') fin
    unfold wp_X8_cuts wp_X8_cuts_8 wp_X8_cuts_33 at fin2
    unfold wp_X1_fewestSteps wp_X1_fewestSteps_24
    refine ⟨fun z => absurd z h, fun _ => ⟨fun z => absurd z (by omega), fun _ => ⟨fun z => absurd z (by omega), fun _ => ⟨fun _ => ⟨fun hso => ?_, fun hso => ?_⟩, fun z => absurd hj2 z⟩⟩⟩⟩
    · rcases hB with z | ⟨s, hd, qu, z1, z2, z3, z4, z5, z6⟩
      · omega
      · have es : s = i' := by omega
        subst es
        subst z1 z2 z3
        have hhd := z6.2.2.2.2.2.1
        have hql := BF_len2 z6
        exact ⟨_, fin2 (D.length - hd) hd di re qu (by omega) z6 z4⟩
    · unfold wp_X1_setOut wp_X1_reach wp_X1_reach_61
      refine fillI (by omega) (fun f hf => ?_) di
      have hneg : f i' = -1 := hf i' (by omega)
      refine ⟨fun z => absurd z (by omega), fun _ => ⟨fun z => absurd z (by omega), fun _ => ⟨fun z => absurd z (by omega), fun _ => ⟨by omega, by omega, fun z => absurd z (by omega), fun _ => ⟨by omega, by omega, by omega, by omega, ⟨by omega, by omega⟩, fun x hx => ?_⟩⟩⟩⟩⟩
      have hr : rep (ups re 0 i') [i'] := fun a b hab => by
        cases a with
        | zero =>
          have e : i' = b := by simpa using hab
          rw [← e]
          exact ups_s
        | succ a => simp at hab
      rw [hx]
      exact ⟨_, fin2 D.length 0 (ups f i' 0) (ups re 0 i') [i'] (by omega) (BF_init hiN (fun v hv => by rw [hf v (by omega)]; omega)) hr⟩
