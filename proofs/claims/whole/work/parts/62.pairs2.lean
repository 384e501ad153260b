/-! ===== pairs and pair, both sides ===== -/
theorem reg_nat {sa sb mu md : Int → Int} (hI : RG sa sb mu md) {r : Int} (h0 : 0 ≤ r) (h8 : r < 8) : ∃ p q : Nat, sa r = p ∧ sb r = q ∧ mu r = p ∧ md r = q ∧ p ≤ 1000000 ∧ 1 ≤ q ∧ q ≤ 1000000 ∧ Nat.gcd p q = 1 := by
  obtain ⟨a1, a2, a3, a4, a5, a6, a7⟩ := hI r h0 h8
  exact ⟨(sa r).toNat, (sb r).toNat, by omega, by omega, by omega, by omega, by omega, by omega, by omega, a7⟩
theorem pairs_ok {sa sb mu md : Int → Int} (hI : RG sa sb mu md) {f : Int → Int} {n lp lq one two : Int} (hT : TI f n lp lq) (r : Int) {K : Int → (Int → Int) → Int → Int → Int → Int → Int → Int → Prop} (hK : ∀ v f' n' lp' lq' one' two', TI f' n' lp' lq' → K v f' n' lp' lq' v one' two') :
    wp_X7_pairs (fun v f' n' lp' lq' => wp_X8_pairs (fun v2 one' two' => K v f' n' lp' lq' v2 one' two') mu md one two r) sa sb f n lp lq r := by
  unfold wp_X7_pairs wp_X7_pairs_29 wp_X8_pairs wp_X8_pairs_45
  refine isReg7 ?_
  by_cases hr : 0 ≤ r ∧ r < 8
  · rw [if_pos hr]
    refine ⟨fun _ => isProper7 ?_, fun z => absurd z (by omega)⟩
    obtain ⟨p, q, e1, e2, e3, e4, b1, b2, b3, b4⟩ := reg_nat hI hr.1 hr.2
    rw [e1, e2]
    have w8 : ∀ (P : Int → Prop), P (if (0 < (p : Int) ∧ (p : Int) < q) ∧ (q : Int) ≤ 5000 then 1 else 0) → wp_X8_isRegister (fun x1 => (¬ x1 = 0 → wp_X8_isUpTo P mu md r 5000) ∧ (x1 = 0 → K (-1) f n lp lq (-1) one two)) r := by
      intro P hP
      refine isReg8 ?_
      rw [if_pos hr]
      refine ⟨fun _ => isUpTo8 hr.1 hr.2 ?_, fun z => absurd z (by omega)⟩
      rw [e3, e4]
      exact hP
    by_cases hp : (0 ≤ r ∧ r < 8) ∧ 0 < (p : Int) ∧ (p : Int) < q
    · rw [if_pos hp]
      refine ⟨fun z => absurd z (by omega), fun _ => ⟨hr.1, hr.2, fun h5 => ⟨hr.1, hr.2, hr.1, hr.2, ?_⟩, fun h5 => ?_⟩⟩
      · refine list5 hT (by omega) (by omega) (by omega) (fun f' hf' => ?_)
        refine isReg8 ?_
        rw [if_pos hr]
        refine ⟨fun _ => isUpTo8 hr.1 hr.2 ?_, fun z => absurd z (by omega)⟩
        rw [e3, e4, if_pos (by omega)]
        refine ⟨fun z => absurd z (by omega), fun _ => ⟨hr.1, hr.2, hr.1, hr.2, ?_⟩⟩
        exact findPairs8 (by omega) (by omega) (by omega) (fun one' two' _ => hK _ _ _ _ _ _ _ (TI_mk hf'))
      · refine isReg8 ?_
        rw [if_pos hr]
        refine ⟨fun _ => isUpTo8 hr.1 hr.2 ?_, fun z => absurd z (by omega)⟩
        rw [e3, e4, if_neg (by omega)]
        exact ⟨fun _ => hK _ _ _ _ _ _ _ hT, fun z => absurd rfl z⟩
    · rw [if_neg hp]
      refine ⟨fun _ => ?_, fun z => absurd rfl z⟩
      refine isReg8 ?_
      rw [if_pos hr]
      refine ⟨fun _ => isUpTo8 hr.1 hr.2 ?_, fun z => absurd z (by omega)⟩
      rw [e3, e4, if_neg (by omega)]
      exact ⟨fun _ => hK _ _ _ _ _ _ _ hT, fun z => absurd rfl z⟩
  · rw [if_neg hr]
    refine ⟨fun z => absurd rfl z, fun _ => isReg8 ?_⟩
    rw [if_neg hr]
    exact ⟨fun z => absurd rfl z, fun _ => hK _ _ _ _ _ _ _ hT⟩
theorem lesser5 {Q : Int → Prop} {f : Int → Int} {n : Nat} {i : Int} (h0 : 0 ≤ i) (h1 : i < n) (h2 : n ≤ 202) (h : Q (f i)) : wp_X5_lesser Q f n i := by
  unfold wp_X5_lesser wp_X5_lesser_31 wp_X5_lesser_32
  exact ⟨fun z => absurd z (by omega), fun _ => ⟨fun z => absurd z (by omega), fun _ => ⟨fun z => absurd z (by omega), fun _ => ⟨by omega, by omega, h⟩⟩⟩⟩
theorem pair_ok {sa sb mu md : Int → Int} (hI : RG sa sb mu md) {f : Int → Int} {n lp lq one two : Int} (hT : TI f n lp lq) (r i w : Int) {K : Int → (Int → Int) → Int → Int → Int → Int → Int → Int → Prop} (hK : ∀ v f' n' lp' lq' one' two', TI f' n' lp' lq' → K v f' n' lp' lq' v one' two') :
    wp_X7_pair (fun v f' n' lp' lq' => wp_X8_pair (fun v2 one' two' => K v f' n' lp' lq' v2 one' two') mu md one two r i w) sa sb f n lp lq r i w := by
  unfold wp_X7_pair wp_X7_pair_18 wp_X7_pair_42 wp_X7_pair_96 wp_X8_pair wp_X8_pair_21 wp_X8_pair_96
  refine isReg7 ?_
  by_cases hr : 0 ≤ r ∧ r < 8
  · rw [if_pos hr]
    refine ⟨fun z => absurd z (by omega), fun _ => ⟨fun hi => ?_, fun hi => isHalf7 ?_⟩⟩
    · refine isReg8 ?_
      rw [if_pos hr]
      exact ⟨fun z => absurd z (by omega), fun _ => ⟨fun _ => hK _ _ _ _ _ _ _ hT, fun z => absurd hi z⟩⟩
    · by_cases hw : w = 0 ∨ w = 1
      · rw [if_pos hw]
        refine ⟨fun _ => isProper7 ?_, fun z => absurd z (by omega)⟩
        obtain ⟨p, q, e1, e2, e3, e4, b1, b2, b3, b4⟩ := reg_nat hI hr.1 hr.2
        rw [e1, e2]
        by_cases hp : (0 ≤ r ∧ r < 8) ∧ 0 < (p : Int) ∧ (p : Int) < q
        · rw [if_pos hp]
          refine ⟨fun z => absurd z (by omega), fun _ => ⟨hr.1, hr.2, fun h5 => ⟨hr.1, hr.2, hr.1, hr.2, ?_⟩, fun h5 => ?_⟩⟩
          · refine list5 hT (by omega) (by omega) (by omega) (fun f' hf' => ?_)
            have hb : (DLn p q q).length ≤ 202 := DLn_202 (by omega) (by omega) (Nat.le_refl _)
            have ref : ∀ v : Int, (¬ i < ((DLn p q q).length : Nat) → v = -4) → (∀ d, (DLn p q q)[i.toNat]? = some d → v = if w = 0 then ((q + d) / p : Nat) else ((q + q * q / d) / p : Nat)) → wp_X8_isRegister (fun x1 => (x1 = 0 → K v f' ((DLn p q q).length : Nat) p q (-1) one two) ∧ (¬ x1 = 0 → (i < 0 → K v f' ((DLn p q q).length : Nat) p q (-1) one two) ∧ (¬ i < 0 → wp_X8_in (fun x15 => (¬ x15 = 0 → wp_X8_isUpTo (fun x30 => (¬ x30 = 0 → 0 ≤ r ∧ r < 8 ∧ 0 ≤ r ∧ r < 8 ∧ wp_X8_findPairs (fun x56 one' two' => r32 (x56 - 1) ∧ wp_X8_in (fun x69 => (¬ x69 = 0 → (¬ w = 0 → K v f' ((DLn p q q).length : Nat) p q two' one' two') ∧ (w = 0 → K v f' ((DLn p q q).length : Nat) p q one' one' two')) ∧ (x69 = 0 → K v f' ((DLn p q q).length : Nat) p q (-4) one' two')) i 0 (x56 - 1)) one two (mu r) (md r) i) ∧ (x30 = 0 → K v f' ((DLn p q q).length : Nat) p q (-2) one two)) mu md r 5000) ∧ (x15 = 0 → K v f' ((DLn p q q).length : Nat) p q (-1) one two)) w 0 1))) r := by
              intro v hv1 hv2
              refine isReg8 ?_
              rw [if_pos hr]
              refine ⟨fun z => absurd z (by omega), fun _ => ⟨fun z => absurd z hi, fun _ => in8 ?_⟩⟩
              rw [if_pos (by omega)]
              refine ⟨fun _ => isUpTo8 hr.1 hr.2 ?_, fun z => absurd z (by omega)⟩
              rw [e3, e4, if_pos (by omega)]
              refine ⟨fun _ => ⟨hr.1, hr.2, hr.1, hr.2, ?_⟩, fun z => absurd z (by omega)⟩
              refine findPairs8 (by omega) (by omega) (by omega) (fun one' two' hot => ⟨⟨by omega, by omega⟩, in8 ?_⟩)
              by_cases hil : i < ((DLn p q q).length : Nat)
              · rw [if_pos (by omega)]
                have hlt : i.toNat < (DLn p q q).length := by omega
                have hg : (DLn p q q)[i.toNat]? = some (DLn p q q)[i.toNat] := List.getElem?_eq_getElem hlt
                obtain ⟨o1, o2⟩ := hot i.toNat _ (by omega) hg
                have hv3 := hv2 _ hg
                refine ⟨fun _ => ⟨fun z => ?_, fun z => ?_⟩, fun z => absurd z (by omega)⟩
                · rw [if_neg z, ← o2] at hv3
                  rw [hv3]
                  exact hK _ _ _ _ _ _ _ (TI_mk hf')
                · rw [if_pos z, ← o1] at hv3
                  rw [hv3]
                  exact hK _ _ _ _ _ _ _ (TI_mk hf')
              · rw [if_neg (by omega)]
                rw [hv1 hil]
                exact ⟨fun z => absurd rfl z, fun _ => hK _ _ _ _ _ _ _ (TI_mk hf')⟩
            refine ⟨fun hil => ?_, fun hil => ref (-4) (fun _ => rfl) (fun d hd => ?_)⟩
            · have hlt : i.toNat < (DLn p q q).length := by omega
              have hg : (DLn p q q)[i.toNat]? = some (DLn p q q)[i.toNat] := List.getElem?_eq_getElem hlt
              have hgm : ((DLn p q q).map (fun d => (q + d) / p))[i.toNat]? = some ((q + (DLn p q q)[i.toNat]) / p) := by rw [List.getElem?_map, hg]; rfl
              have hfi := hf' _ _ hgm
              have ei : ((i.toNat : Nat) : Int) = i := by omega
              rw [ei] at hfi
              have hdm := DLn_mem (List.getElem_mem hlt)
              generalize hdd : (DLn p q q)[i.toNat] = d at hg hfi hdm
              obtain ⟨a, ha⟩ := Nat.dvd_of_mod_eq_zero hdm.2.2.2.1
              have hpe := (pair_eq (p := p) (q := q) (a := a) (d := d) (by omega) hdm.2.1 ha).2 hdm.2
              have ea : (q + d) / p = a := by rw [ha, Nat.mul_div_cancel_left a (by omega)]
              have hd1 : 1 ≤ d := hdm.2.1
              have hapa : a ≤ p * a := Nat.le_mul_of_pos_left a (by omega)
              refine ⟨fun z => ?_, fun z => lesser5 (by omega) (by omega) hb (ref _ (fun y => absurd hil y) (fun d' hd' => ?_))⟩
              · unfold wp_X5_greater wp_X5_greater_42
                refine lesser5 (by omega) (by omega) hb ?_
                rw [hfi, ea]
                have c1 : (p : Int) * (a : Int) = ((p * a : Nat) : Int) := rfl
                have c2 : (q : Int) * (a : Int) = ((q * a : Nat) : Int) := rfl
                have hqa : q * a ≤ 5000 * 10000 := Nat.mul_le_mul (by omega) (by omega)
                rw [c1, c2]
                refine ⟨⟨by omega, by omega⟩, ⟨by omega, by omega⟩, fun x hx => ⟨fun y => absurd y (by omega), fun _ => ⟨⟨by omega, by omega⟩, by omega, ?_⟩⟩⟩
                have ex : x = (d : Int) := by omega
                rw [ex, nm_tdiv]
                refine ref _ (fun y => absurd hil y) (fun d' hd' => ?_)
                have : d' = d := by rw [hg] at hd'; exact (Option.some.inj hd').symm
                subst this
                rw [if_neg z, hpe]
              · have : d' = d := by rw [hg] at hd'; exact (Option.some.inj hd').symm
                subst this
                rw [if_pos z, hfi]
            · have := (List.getElem?_eq_some_iff.mp hd).1
              omega
          · refine isReg8 ?_
            rw [if_pos hr]
            refine ⟨fun z => absurd z (by omega), fun _ => ⟨fun z => absurd z hi, fun _ => in8 ?_⟩⟩
            rw [if_pos (by omega)]
            refine ⟨fun _ => isUpTo8 hr.1 hr.2 ?_, fun z => absurd z (by omega)⟩
            rw [e3, e4, if_neg (by omega)]
            exact ⟨fun z => absurd rfl z, fun _ => hK _ _ _ _ _ _ _ hT⟩
        · rw [if_neg hp]
          refine ⟨fun _ => isReg8 ?_, fun z => absurd rfl z⟩
          rw [if_pos hr]
          refine ⟨fun z => absurd z (by omega), fun _ => ⟨fun z => absurd z hi, fun _ => in8 ?_⟩⟩
          rw [if_pos (by omega)]
          refine ⟨fun _ => isUpTo8 hr.1 hr.2 ?_, fun z => absurd z (by omega)⟩
          rw [e3, e4, if_neg (by omega)]
          exact ⟨fun z => absurd rfl z, fun _ => hK _ _ _ _ _ _ _ hT⟩
      · rw [if_neg hw]
        refine ⟨fun z => absurd rfl z, fun _ => isReg8 ?_⟩
        rw [if_pos hr]
        refine ⟨fun z => absurd z (by omega), fun _ => ⟨fun z => absurd z hi, fun _ => in8 ?_⟩⟩
        rw [if_neg (by omega)]
        exact ⟨fun z => absurd rfl z, fun _ => hK _ _ _ _ _ _ _ hT⟩
  · rw [if_neg hr]
    refine ⟨fun _ => isReg8 ?_, fun z => absurd rfl z⟩
    rw [if_neg hr]
    exact ⟨fun _ => hK _ _ _ _ _ _ _ hT, fun z => absurd rfl z⟩
