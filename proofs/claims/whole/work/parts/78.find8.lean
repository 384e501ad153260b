/-! ===== the reference's search for all sums ===== -/
def E8 (Q : Int → (Int → Int) → (Int → Int) → (Int → Int) → (Int → Int) → (Int → Int) → (Int → Int) → Int → Prop) (fo : Int) (ma sh st ta ru rd : Int → Int) (fe n k ke co d mo : Int) : Prop := ∃ N : Nat, wp_X8_findSums_36 Q N fo ma sh st ta ru rd fe n k ke co d mo
def FB8 (Q : Int → (Int → Int) → (Int → Int) → (Int → Int) → (Int → Int) → (Int → Int) → (Int → Int) → Int → Prop) (N : Nat) (fo : Int) (ma sh st ta ru rd : Int → Int) (fe n k ke co d : Int) : Prop :=
  (fe < 0 → wp_X8_findSums_159 Q (wp_X8_findSums_36 Q N) fo ma sh st ta ru rd fe n k ke co d) ∧ (¬ (fe < 0) → (r32 (d + 1) ∧ ((fe ≤ (d + 1) → wp_X8_findSums_170 Q (wp_X8_findSums_36 Q N) fo ma sh st ta ru rd fe n k ke co d fe) ∧ (¬ (fe ≤ (d + 1)) → wp_X8_findSums_159 Q (wp_X8_findSums_36 Q N) fo ma sh st ta ru rd fe n k ke co d))))
theorem fs_up {Q : Int → (Int → Int) → (Int → Int) → (Int → Int) → (Int → Int) → (Int → Int) → (Int → Int) → Int → Prop} {N : Nat} {fo : Int} {ma sh st ta ru rd : Int → Int} {fe ke co : Int} {n k d v up dn : Nat} (hd : d < 7) (hk : k ≤ 6) (hdk : d < k) (hv : ta d = v) (hv2 : v ≤ 60) (hu : ru d = up) (hdn : rd d = dn) (hb : dn ≤ 800000000000000) (hub : up ≤ dn)
    (hc : n < v + 1 ∨ dn * (k - d) < up * (v + 1)) (h : wp_X8_findSums_36 Q N fo ma sh st (ups ta d ((v + 1 : Nat) : Int)) ru rd fe n k ke co ((d : Int) - 1) 1) : wp_X8_findSums_36 Q (N + 1) fo ma sh st ta ru rd fe n k ke co d 1 := by
  rw [wp_X8_findSums_36]
  unfold wp_X8_findSums_114 wp_X8_findSums_115 wp_X8_findSums_308
  rw [hv, hu, hdn]
  have e0 : (v : Int) + 1 = ((v + 1 : Nat) : Int) := rfl
  have e9 : (d : Int) + (-1) = (d : Int) - 1 := rfl
  rw [e0, e9]
  have out : ∀ x56 : Int, x56 = ((v + 1 : Nat) : Int) → r32 ((d : Int) - 1) ∧ wp_X8_findSums_36 Q N fo ma sh st (ups ta d x56) ru rd fe n k ke co ((d : Int) - 1) 1 := fun x56 e => ⟨⟨by omega, by omega⟩, by rw [e]; exact h⟩
  refine ⟨fun z => absurd z (by omega), fun _ => ⟨fun z => absurd z (by omega), fun _ => ⟨by omega, by omega, ⟨by omega, by omega⟩, fun x56 h56 => ⟨by omega, by omega, by omega, by omega, fun x64 h64 => ⟨by omega, by omega, fun x73 h73 => ⟨by omega, by omega, fun x82 h82 => ⟨fun w => ⟨fun z => absurd rfl z, fun _ => out x56 h56⟩, fun w => ?_⟩⟩⟩⟩⟩⟩⟩
  rw [ups_s, h56] at h64
  have c1 : (up : Int) * ((v + 1 : Nat) : Int) = ((up * (v + 1) : Nat) : Int) := rfl
  have c2 : (k : Int) - (d : Int) = ((k - d : Nat) : Int) := by omega
  have c3 : (dn : Int) * ((k - d : Nat) : Int) = ((dn * (k - d) : Nat) : Int) := rfl
  have b1 : up * (v + 1) ≤ 800000000000000 * 61 := Nat.mul_le_mul (by omega) (by omega)
  have b2 : dn * (k - d) ≤ 800000000000000 * 6 := Nat.mul_le_mul hb (by omega)
  rw [h64] at w ⊢
  rw [h73, h82, c1, c2, c3]
  refine ⟨⟨by omega, by omega⟩, ⟨by omega, by omega⟩, ⟨by omega, by omega⟩, fun y => ⟨fun z => absurd rfl z, fun _ => out x56 h56⟩, fun y => absurd y (by omega)⟩
theorem fs_in {Q : Int → (Int → Int) → (Int → Int) → (Int → Int) → (Int → Int) → (Int → Int) → (Int → Int) → Int → Prop} {N : Nat} {fo : Int} {ma sh st ta ru rd : Int → Int} {fe ke co : Int} {n k d v up dn : Nat} (hd : d < 7) (hk : k ≤ 6) (hdk : d < k) (hv : ta d = v) (hn : n ≤ 60) (hvn : v + 1 ≤ n) (hu : ru d = up) (hdn : rd d = dn) (hb : dn ≤ 800000000000000) (hub : up ≤ dn) (hdn1 : 1 ≤ dn)
    (hc : ¬ dn * (k - d) < up * (v + 1))
    (h1 : up * (v + 1) = dn → FB8 Q N fo ma sh st (ups ta d ((v + 1 : Nat) : Int)) ru rd fe n k ke co d)
    (h2 : up * (v + 1) < dn ∨ (dn < up * (v + 1) ∧ k ≤ d + 1) → wp_X8_findSums_36 Q N fo ma sh st (ups ta d ((v + 1 : Nat) : Int)) ru rd fe n k ke co d 1)
    (h3 : dn < up * (v + 1) → d + 1 < k → dn * (v + 1) ≤ 800000000000000 ∧ wp_X8_findSums_36 Q N fo ma sh st (ups (ups ta d ((v + 1 : Nat) : Int)) ((d + 1 : Nat) : Int) ((v + 1 : Nat) : Int)) (ups ru ((d + 1 : Nat) : Int) (((up * (v + 1) - dn) / Nat.gcd (up * (v + 1) - dn) (dn * (v + 1)) : Nat) : Int)) (ups rd ((d + 1 : Nat) : Int) (((dn * (v + 1)) / Nat.gcd (up * (v + 1) - dn) (dn * (v + 1)) : Nat) : Int)) fe n k ke co ((d + 1 : Nat) : Int) 1) :
    wp_X8_findSums_36 Q (N + 1) fo ma sh st ta ru rd fe n k ke co d 1 := by
  rw [wp_X8_findSums_36]
  unfold wp_X8_findSums_114 wp_X8_findSums_115 wp_X8_findSums_308
  rw [hv, hu, hdn]
  have e0 : (v : Int) + 1 = ((v + 1 : Nat) : Int) := rfl
  have e9 : (d : Int) + 1 = ((d + 1 : Nat) : Int) := rfl
  rw [e0, e9]
  refine ⟨fun z => absurd z (by omega), fun _ => ⟨fun z => absurd z (by omega), fun _ => ⟨by omega, by omega, ⟨by omega, by omega⟩, fun x56 h56 => ⟨by omega, by omega, by omega, by omega, fun x64 h64 => ⟨by omega, by omega, fun x73 h73 => ⟨by omega, by omega, fun x82 h82 => ?_⟩⟩⟩⟩⟩⟩
  rw [ups_s, h56] at h64
  rw [h64, h73, h82, h56]
  have c1 : (up : Int) * ((v + 1 : Nat) : Int) = ((up * (v + 1) : Nat) : Int) := rfl
  have c2 : (k : Int) - (d : Int) = ((k - d : Nat) : Int) := by omega
  have c3 : (dn : Int) * ((k - d : Nat) : Int) = ((dn * (k - d) : Nat) : Int) := rfl
  have c4 : (dn : Int) * ((v + 1 : Nat) : Int) = ((dn * (v + 1) : Nat) : Int) := rfl
  have b1 : up * (v + 1) ≤ 800000000000000 * 61 := Nat.mul_le_mul (by omega) (by omega)
  have b2 : dn * (k - d) ≤ 800000000000000 * 6 := Nat.mul_le_mul hb (by omega)
  have b3 : 1 ≤ dn * (v + 1) := Nat.mul_pos hdn1 (by omega)
  rw [c1, c2, c3, c4]
  generalize hU : up * (v + 1) = U at *
  generalize hV : dn * (v + 1) = V at *
  refine ⟨fun w => absurd w (by omega), fun _ => ⟨⟨by omega, by omega⟩, ⟨by omega, by omega⟩, ⟨by omega, by omega⟩, fun y => absurd y (by omega), fun _ => ⟨fun _ => ⟨⟨by omega, by omega⟩, fun y => ⟨⟨by omega, by omega⟩, fun w => h2 (by omega), fun w => ⟨⟨by omega, by omega⟩, fun u => h2 (by omega), fun u => ?_⟩⟩, fun y => h1 (by omega)⟩, fun y => absurd y (by omega)⟩⟩⟩
  obtain ⟨h4, h5⟩ := h3 (by omega) (by omega)
  refine ⟨⟨by omega, by omega⟩, ⟨by omega, by omega⟩, fun a ha => ⟨⟨by omega, by omega⟩, fun b hb2 => ?_⟩⟩
  have ea : a = ((U - dn : Nat) : Int) := by omega
  rw [ea, hb2]
  refine gcd8 ?_
  have hgp : 0 < Nat.gcd (U - dn) V := Nat.gcd_pos_of_pos_right _ (by omega)
  rw [nm_tdiv, nm_tdiv]
  refine ⟨⟨by omega, by omega⟩, by omega, fun x hx => ⟨by omega, by omega, by omega, fun y hy => ⟨by omega, by omega, by omega, by omega, ?_⟩⟩⟩
  rw [hx, hy]
  exact h5
theorem fs_run {Q : Int → (Int → Int) → (Int → Int) → (Int → Int) → (Int → Int) → (Int → Int) → (Int → Int) → Int → Prop} {Inv : List (List Nat) → Int → (Int → Int) → (Int → Int) → (Int → Int) → Int → Int → Prop} {T : List (List Nat)} {n k q : Nat} {ke : Int} (hn : n ≤ 60) (hk : k ≤ 6) (hq1 : 1 ≤ q)
    (hfind : ∀ (D X : List (List Nat)) (l : List Nat) fo ma sh st ta ru rd fe co (d : Nat), d < k → Inv D fo ma sh st fe co → l.length = d + 1 → rep ta l → T = D ++ l :: X → (∀ fo' ma' sh' st' fe' co', Inv (D ++ [l]) fo' ma' sh' st' fe' co' → E8 Q fo' ma' sh' st' ta ru rd fe' n k ke co' d 1) → ∃ N, FB8 Q N fo ma sh st ta ru rd fe n k ke co d) :
    ∀ (m d v : Nat) (P : List Nat) (D X : List (List Nat)) (t up dn : Nat) (fo : Int) (ma sh st ta ru rd : Int → Int) (fe co : Int), v + m = n → 1 ≤ v → d < k → P.length = d → rep ta P → ta d = v → ru d = up → rd d = dn → up ≤ dn → 1 ≤ dn → dn ≤ 1000000 * 60 ^ d → up * (q * WW) = t * dn → Inv D fo ma sh st fe co → T = D ++ (SL (cw q) (rl n m) (k - d) t).map (fun l => P ++ l) ++ X →
      (∀ fo' ma' sh' st' ta' ru' rd' fe' co', (∀ j : Nat, j < d → ta' j = ta j ∧ ru' j = ru j ∧ rd' j = rd j) → Inv (D ++ (SL (cw q) (rl n m) (k - d) t).map (fun l => P ++ l)) fo' ma' sh' st' fe' co' → E8 Q fo' ma' sh' st' ta' ru' rd' fe' n k ke co' ((d : Int) - 1) 1) →
      E8 Q fo ma sh st ta ru rd fe n k ke co d 1 := by
  have h60 : ∀ d, d < k → 1000000 * 60 ^ d ≤ 800000000000000 := by
    intro d hd
    have : 60 ^ d ≤ 60 ^ 5 := Nat.pow_le_pow_right (by omega) (by omega)
    have e : (60 : Nat) ^ 5 = 777600000 := by decide
    omega
  intro m
  induction m with
  | zero =>
    intro d v P D X t up dn fo ma sh st ta ru rd fe co hvn hv1 hdk hP hta htd hru hrd hud hd1 hdb hrat hI hT hcont
    have hs : (SL (cw q) (rl n 0) (k - d) t).map (fun l => P ++ l) = [] := rfl
    rw [hs, List.append_nil] at hcont
    have := h60 d hdk
    obtain ⟨N, hN⟩ := hcont fo ma sh st (ups ta d ((v + 1 : Nat) : Int)) ru rd fe co (fun j hj => ⟨ups_n (by omega), rfl, rfl⟩) hI
    exact ⟨N + 1, fs_up (by omega) hk hdk htd (by omega) hru hrd (by omega) hud (Or.inl (by omega)) hN⟩
  | succ m ih =>
    intro d v P D X t up dn fo ma sh st ta ru rd fe co hvn hv1 hdk hP hta htd hru hrd hud hd1 hdb hrat hI hT hcont
    have hb8 := h60 d hdk
    have hv2 : 2 ≤ v + 1 := by omega
    have hv60 : v + 1 ≤ 60 := by omega
    have hrl : rl n (m + 1) = (v + 1) :: rl n m := by rw [rl]; congr 1; omega
    have hcm := cw_mul (q := q) hv2 hv60
    have hcp := cw_pos (v := v + 1) hq1 hv2 hv60
    have hqW : 0 < q * WW := Nat.mul_pos hq1 WW_pos
    obtain ⟨s, hs⟩ : ∃ s, k - d = s + 1 := ⟨k - d - 1, by omega⟩
    -- comparisons carry over
    have cmp : ∀ z : Nat, (up * (v + 1)) * (q * WW) = t * (v + 1) * dn ∧ (z * dn) * (q * WW) = z * cw q (v + 1) * (v + 1) * dn := by
      intro z
      refine ⟨?_, ?_⟩
      · have : up * (v + 1) * (q * WW) = up * (q * WW) * (v + 1) := by grind
        rw [this, hrat]; grind
      · rw [← hcm]; grind
    have mono : ∀ x ∈ rl n (m + 1), cw q x ≤ cw q (v + 1) := by
      intro x hx
      have := (rl_mem (n := n) (m + 1) x (by omega)).mp hx
      exact cw_mono hv2 (by omega)
    have hvd : 0 < (v + 1) * dn := Nat.mul_pos (by omega) hd1
    by_cases hA : dn * (k - d) < up * (v + 1)
    · -- too much is left for so few
      have hpr : (k - d) * cw q (v + 1) < t := by
        have h1 : (dn * (k - d)) * (q * WW) < (up * (v + 1)) * (q * WW) := Nat.mul_lt_mul_of_pos_right hA hqW
        rw [(cmp 0).1, Nat.mul_comm dn (k - d), (cmp (k - d)).2] at h1
        have h2 : (k - d) * cw q (v + 1) * ((v + 1) * dn) < t * ((v + 1) * dn) := by
          have e1 : (k - d) * cw q (v + 1) * ((v + 1) * dn) = (k - d) * cw q (v + 1) * (v + 1) * dn := by grind
          have e2 : t * ((v + 1) * dn) = t * (v + 1) * dn := by grind
          omega
        exact Nat.lt_of_mul_lt_mul_right h2
      have hnil := SL_prune (c := cw q) (rl n (m + 1)) (k - d) t mono hpr
      rw [hnil, List.map_nil, List.append_nil] at hcont
      obtain ⟨N, hN⟩ := hcont fo ma sh st (ups ta d ((v + 1 : Nat) : Int)) ru rd fe co (fun j hj => ⟨ups_n (by omega), rfl, rfl⟩) hI
      exact ⟨N + 1, fs_up (by omega) hk hdk htd (by omega) hru hrd (by omega) hud (Or.inr hA) hN⟩
    -- the number v + 1 is tried
    have hta1 : rep (ups ta d ((v + 1 : Nat) : Int)) P := by
      intro j x hx
      have := (List.getElem?_eq_some_iff.mp hx).1
      rw [ups_n (by omega)]
      exact hta j x hx
    have agree : ∀ (ta' ru' rd' : Int → Int), (∀ j : Nat, j < d → ta' j = (ups ta d ((v + 1 : Nat) : Int)) j ∧ ru' j = ru j ∧ rd' j = rd j) → (∀ j : Nat, j < d → ta' j = ta j ∧ ru' j = ru j ∧ rd' j = rd j) := by
      intro ta' ru' rd' h j hj
      refine ⟨?_, (h j hj).2.1, (h j hj).2.2⟩
      rw [(h j hj).1, ups_n (by omega)]
    have hSL : SL (cw q) (rl n (m + 1)) (k - d) t = (if cw q (v + 1) = t then [[v + 1]] else if cw q (v + 1) < t then (SL (cw q) (rl n m) (k - (d + 1)) (t - cw q (v + 1))).map (fun l => (v + 1) :: l) else []) ++ SL (cw q) (rl n m) (k - d) t := by
      have e : k - (d + 1) = s := by omega
      rw [hrl, hs, SL, e]
    have eqs : (up * (v + 1) = dn ↔ cw q (v + 1) = t) ∧ (up * (v + 1) < dn ↔ t < cw q (v + 1)) := by
      have k1 := (cmp 1).1
      have k2 := (cmp 1).2
      rw [Nat.one_mul, Nat.one_mul] at k2
      refine ⟨⟨fun e => ?_, fun e => ?_⟩, ⟨fun e => ?_, fun e => ?_⟩⟩
      · rw [e] at k1
        have : cw q (v + 1) * ((v + 1) * dn) = t * ((v + 1) * dn) := by
          have e1 : cw q (v + 1) * ((v + 1) * dn) = cw q (v + 1) * (v + 1) * dn := by grind
          have e2 : t * ((v + 1) * dn) = t * (v + 1) * dn := by grind
          omega
        exact Nat.eq_of_mul_eq_mul_right hvd this
      · rw [e] at k2
        exact Nat.eq_of_mul_eq_mul_right hqW (by rw [k1, k2])
      · have h1 : up * (v + 1) * (q * WW) < dn * (q * WW) := Nat.mul_lt_mul_of_pos_right e hqW
        have : t * ((v + 1) * dn) < cw q (v + 1) * ((v + 1) * dn) := by
          have e1 : cw q (v + 1) * ((v + 1) * dn) = cw q (v + 1) * (v + 1) * dn := by grind
          have e2 : t * ((v + 1) * dn) = t * (v + 1) * dn := by grind
          omega
        exact Nat.lt_of_mul_lt_mul_right this
      · have h1 : t * ((v + 1) * dn) < cw q (v + 1) * ((v + 1) * dn) := Nat.mul_lt_mul_of_pos_right e hvd
        have e1 : cw q (v + 1) * ((v + 1) * dn) = cw q (v + 1) * (v + 1) * dn := by grind
        have e2 : t * ((v + 1) * dn) = t * (v + 1) * dn := by grind
        have : up * (v + 1) * (q * WW) < dn * (q * WW) := by omega
        exact Nat.lt_of_mul_lt_mul_right this
    rcases Nat.lt_trichotomy (up * (v + 1)) dn with hlt | heq | hgt
    · -- too great a share
      have hl := eqs.2.mp hlt
      rw [if_neg (by omega), if_neg (by omega), List.nil_append] at hSL
      rw [hSL] at hT hcont
      obtain ⟨N, hN⟩ := ih d (v + 1) P D X t up dn fo ma sh st (ups ta d ((v + 1 : Nat) : Int)) ru rd fe co (by omega) (by omega) hdk hP hta1 (by rw [ups_s]) hru hrd hud hd1 hdb hrat hI hT (fun fo' ma' sh' st' ta' ru' rd' fe' co' ha hi => hcont fo' ma' sh' st' ta' ru' rd' fe' co' (agree _ _ _ ha) hi)
      exact ⟨N + 1, fs_in (by omega) hk hdk htd hn (by omega) hru hrd (by omega) hud hd1 hA (fun e => absurd e (by omega)) (fun _ => hN) (fun e => absurd e (by omega))⟩
    · -- a sum
      have hl := eqs.1.mp heq
      rw [if_pos hl] at hSL
      rw [hSL, List.map_append, List.map_singleton] at hT hcont
      have hlen : (P ++ [v + 1]).length = d + 1 := by rw [List.length_append, List.length_singleton, hP]
      have hrep : rep (ups ta d ((v + 1 : Nat) : Int)) (P ++ [v + 1]) := by
        have := rep_add (s := v + 1) hta
        rw [hP] at this
        exact this
      have hT1 : T = D ++ (P ++ [v + 1]) :: ((SL (cw q) (rl n m) (k - d) t).map (fun l => P ++ l) ++ X) := by rw [hT]; simp
      have hnext : ∀ fo' ma' sh' st' fe' co', Inv (D ++ [P ++ [v + 1]]) fo' ma' sh' st' fe' co' → E8 Q fo' ma' sh' st' (ups ta d ((v + 1 : Nat) : Int)) ru rd fe' n k ke co' d 1 := by
        intro fo' ma' sh' st' fe' co' hI'
        refine ih d (v + 1) P (D ++ [P ++ [v + 1]]) X t up dn fo' ma' sh' st' (ups ta d ((v + 1 : Nat) : Int)) ru rd fe' co' (by omega) (by omega) hdk hP hta1 (by rw [ups_s]) hru hrd hud hd1 hdb hrat hI' (by rw [hT]; simp) (fun fo2 ma2 sh2 st2 ta2 ru2 rd2 fe2 co2 ha hi => hcont fo2 ma2 sh2 st2 ta2 ru2 rd2 fe2 co2 (agree _ _ _ ha) ?_)
        rw [List.append_assoc] at hi
        exact hi
      obtain ⟨N, hN⟩ := hfind D _ (P ++ [v + 1]) fo ma sh st (ups ta d ((v + 1 : Nat) : Int)) ru rd fe co d hdk hI hlen hrep hT1 hnext
      exact ⟨N + 1, fs_in (by omega) hk hdk htd hn (by omega) hru hrd (by omega) hud hd1 hA (fun _ => hN) (fun e => absurd e (by omega)) (fun e => absurd e (by omega))⟩
    · have hlt2 : cw q (v + 1) < t := by
        have h1 : ¬ cw q (v + 1) = t := fun e => by have := eqs.1.mpr e; omega
        have h2 : ¬ t < cw q (v + 1) := fun e => by have := eqs.2.mpr e; omega
        omega
      rw [if_neg (by omega), if_pos hlt2] at hSL
      by_cases hk1 : k ≤ d + 1
      · have e0 : k - (d + 1) = 0 := by omega
        rw [e0, SL_0, List.map_nil, List.nil_append] at hSL
        rw [hSL] at hT hcont
        obtain ⟨N, hN⟩ := ih d (v + 1) P D X t up dn fo ma sh st (ups ta d ((v + 1 : Nat) : Int)) ru rd fe co (by omega) (by omega) hdk hP hta1 (by rw [ups_s]) hru hrd hud hd1 hdb hrat hI hT (fun fo' ma' sh' st' ta' ru' rd' fe' co' ha hi => hcont fo' ma' sh' st' ta' ru' rd' fe' co' (agree _ _ _ ha) hi)
        exact ⟨N + 1, fs_in (by omega) hk hdk htd hn (by omega) hru hrd (by omega) hud hd1 hA (fun e => absurd e (by omega)) (fun _ => hN) (fun _ e => absurd e (by omega))⟩
      · -- deeper
        rw [hSL, List.map_append, List.map_map] at hT hcont
        have efun : ((fun l => P ++ l) ∘ fun l => (v + 1) :: l) = (fun l : List Nat => (P ++ [v + 1]) ++ l) := by
          funext l
          simp
        rw [efun] at hT hcont
        have hdb1 : dn * (v + 1) ≤ 1000000 * 60 ^ (d + 1) := by
          have : dn * (v + 1) ≤ (1000000 * 60 ^ d) * 60 := Nat.mul_le_mul hdb hv60
          rw [Nat.pow_succ, ← Nat.mul_assoc]; exact this
        have h8 := h60 (d + 1) (by omega)
        have hV : 0 < dn * (v + 1) := Nat.mul_pos hd1 (by omega)
        generalize hg : Nat.gcd (up * (v + 1) - dn) (dn * (v + 1)) = g
        have hg0 : 0 < g := by rw [← hg]; exact Nat.gcd_pos_of_pos_right _ hV
        have d1 : g ∣ up * (v + 1) - dn := by rw [← hg]; exact Nat.gcd_dvd_left _ _
        have d2 : g ∣ dn * (v + 1) := by rw [← hg]; exact Nat.gcd_dvd_right _ _
        obtain ⟨a, ha⟩ := d1
        obtain ⟨b, hb⟩ := d2
        have ea : (up * (v + 1) - dn) / g = a := by rw [ha, Nat.mul_div_cancel_left a hg0]
        have eb : dn * (v + 1) / g = b := by rw [hb, Nat.mul_div_cancel_left b hg0]
        have hab : a ≤ b := by
          have h1 : up * (v + 1) ≤ dn * (v + 1) := Nat.mul_le_mul_right _ hud
          have h2 : g * a ≤ g * b := by rw [← ha, ← hb]; omega
          exact Nat.le_of_mul_le_mul_left h2 hg0
        have hb1 : 1 ≤ b := by
          rcases Nat.eq_zero_or_pos b with z | z
          · rw [z, Nat.mul_zero] at hb; omega
          · exact z
        have hbb : b ≤ 1000000 * 60 ^ (d + 1) := by
          have : b ≤ g * b := Nat.le_mul_of_pos_left b hg0
          omega
        have hrat2 : a * (q * WW) = (t - cw q (v + 1)) * b := by
          refine Nat.eq_of_mul_eq_mul_left hg0 ?_
          have e1 : g * (a * (q * WW)) = (g * a) * (q * WW) := by grind
          have e2 : g * ((t - cw q (v + 1)) * b) = (t - cw q (v + 1)) * (g * b) := by grind
          rw [e1, e2, ← ha, ← hb, Nat.sub_mul, Nat.sub_mul, (cmp 1).1]
          have e3 := (cmp 1).2
          rw [Nat.one_mul, Nat.one_mul] at e3
          rw [e3]
          have e4 : t * (dn * (v + 1)) = t * (v + 1) * dn := by grind
          have e5 : cw q (v + 1) * (dn * (v + 1)) = cw q (v + 1) * (v + 1) * dn := by grind
          omega
        have hlen : (P ++ [v + 1]).length = d + 1 := by rw [List.length_append, List.length_singleton, hP]
        have hrep : rep (ups ta d ((v + 1 : Nat) : Int)) (P ++ [v + 1]) := by
          have := rep_add (s := v + 1) hta
          rw [hP] at this
          exact this
        have hrep2 : rep (ups (ups ta d ((v + 1 : Nat) : Int)) ((d + 1 : Nat) : Int) ((v + 1 : Nat) : Int)) (P ++ [v + 1]) := by
          intro j x hx
          have := (List.getElem?_eq_some_iff.mp hx).1
          rw [ups_n (by omega)]
          exact hrep j x hx
        have deep := ih (d + 1) (v + 1) (P ++ [v + 1]) D ((SL (cw q) (rl n m) (k - d) t).map (fun l => P ++ l) ++ X) (t - cw q (v + 1)) a b fo ma sh st (ups (ups ta d ((v + 1 : Nat) : Int)) ((d + 1 : Nat) : Int) ((v + 1 : Nat) : Int)) (ups ru ((d + 1 : Nat) : Int) (a : Int)) (ups rd ((d + 1 : Nat) : Int) (b : Int)) fe co (by omega) (by omega) (by omega) hlen hrep2 (by rw [ups_s]) (by rw [ups_s]) (by rw [ups_s]) hab hb1 hbb hrat2 hI (by rw [hT]; simp) (fun fo2 ma2 sh2 st2 ta2 ru2 rd2 fe2 co2 hag hi => ?_)
        · obtain ⟨N, hN⟩ := deep
          refine ⟨N + 1, fs_in (by omega) hk hdk htd hn (by omega) hru hrd (by omega) hud hd1 hA (fun e => absurd e (by omega)) (fun e => absurd e (by omega)) (fun _ _ => ⟨by omega, ?_⟩)⟩
          rw [hg, ea, eb]
          exact hN
        · have ed : ((d + 1 : Nat) : Int) - 1 = (d : Int) := by omega
          rw [ed]
          have hd' := hag d (by omega)
          have x1 : ta2 d = ((v + 1 : Nat) : Int) := by rw [hd'.1, ups_n (by omega), ups_s]
          have x2 : ru2 d = up := by rw [hd'.2.1, ups_n (by omega), hru]
          have x3 : rd2 d = dn := by rw [hd'.2.2, ups_n (by omega), hrd]
          have hag2 : ∀ j : Nat, j < d → ta2 j = ta j ∧ ru2 j = ru j ∧ rd2 j = rd j := by
            intro j hj
            have := hag j (by omega)
            refine ⟨?_, ?_, ?_⟩
            · rw [this.1, ups_n (by omega), ups_n (by omega)]
            · rw [this.2.1, ups_n (by omega)]
            · rw [this.2.2, ups_n (by omega)]
          have hta2 : rep ta2 P := by
            intro j x hx
            have hj := (List.getElem?_eq_some_iff.mp hx).1
            rw [(hag2 j (by omega)).1]
            exact hta j x hx
          refine ih d (v + 1) P _ X t up dn fo2 ma2 sh2 st2 ta2 ru2 rd2 fe2 co2 (by omega) (by omega) hdk hP hta2 x1 x2 x3 hud hd1 hdb hrat hi (by rw [hT]; simp) (fun fo3 ma3 sh3 st3 ta3 ru3 rd3 fe3 co3 hag3 hi3 => hcont fo3 ma3 sh3 st3 ta3 ru3 rd3 fe3 co3 (fun j hj => ?_) ?_)
          · have a1 := hag3 j hj
            have a2 := hag2 j hj
            exact ⟨a1.1.trans a2.1, a1.2.1.trans a2.2.1, a1.2.2.trans a2.2.2⟩
          · rw [List.append_assoc] at hi3
            exact hi3
