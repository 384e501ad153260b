/-! ===== road, share, loaves ===== -/
theorem road_ok {sa sb mu md : Int → Int} (hI : RG sa sb mu md) (rd r : Int) {sh : Int → Int} {sz : Int} {mm : Int} {row : Int → Int} {sp : Int} {K : Int → (Int → Int) → Int → Int → Int → (Int → Int) → Int → Prop} (hK : ∀ v sh' sz' mm' row' sp', K v sh' sz' v mm' row' sp') :
    wp_X7_road (fun v sh' sz' => wp_X8_road (fun v2 mm' row' sp' => K v sh' sz' v2 mm' row' sp') mu md mm row sp rd r) sa sb sh sz rd r := by
  unfold wp_X7_road wp_X7_road_14 wp_X8_road wp_X8_road_14
  by_cases hrd : 0 ≤ rd ∧ rd < 5
  · refine isRoad7 ?_
    rw [if_pos hrd]
    refine ⟨fun z => absurd z (by omega), fun _ => isReg7 ?_⟩
    by_cases hr : 0 ≤ r ∧ r < 8
    · rw [if_pos hr]
      refine ⟨fun _ => ⟨hr.1, hr.2, hr.1, hr.2, ?_⟩, fun z => absurd z (by omega)⟩
      obtain ⟨a1, a2, a3, a4, a5, a6, a7⟩ := hI r hr.1 hr.2
      rw [← a1, ← a2]
      have e1 : sa r = (((sa r).toNat : Nat) : Int) := by omega
      have e2 : sb r = (((sb r).toNat : Nat) : Int) := by omega
      have e3 : rd = ((rd.toNat : Nat) : Int) := by omega
      have b6 : (sb r).toNat ≤ 1000000 := by omega
      have b5 : rd.toNat < 5 := by omega
      generalize (sa r).toNat = p at e1 a7
      generalize (sb r).toNat = q at e2 a7 b6
      generalize rd.toNat = d at e3 b5
      rw [e1, e2, e3]
      have w8 : ∀ {Q : Int → Int → (Int → Int) → Int → Prop}, wp_X8_goRoad Q mm row sp d p q → wp_X8_isRoad (fun x1 => (x1 = 0 → Q (-1) mm row sp) ∧ (¬ x1 = 0 → wp_X8_isRegister (fun x8 => (¬ x8 = 0 → 0 ≤ r ∧ r < 8 ∧ 0 ≤ r ∧ r < 8 ∧ wp_X8_goRoad Q mm row sp d p q) ∧ (x8 = 0 → Q (-1) mm row sp)) r)) d := by
        intro Q h
        refine isRoad8 ?_
        rw [if_pos (by omega)]
        refine ⟨fun z => absurd z (by omega), fun _ => isReg8 ?_⟩
        rw [if_pos hr]
        exact ⟨fun _ => ⟨hr.1, hr.2, hr.1, hr.2, h⟩, fun z => absurd z (by omega)⟩
      refine follow7 b5 b6 a7 (fun a => w8 ?_) (fun l' sh' a b c dd => w8 ?_) (fun a b sh' v => w8 ?_)
      · exact goRoad8 b5 b6 a7 (fun _ => hK _ _ _ _ _ _) (fun _ _ z => absurd a z) (fun z => absurd a z)
      · refine goRoad8 b5 b6 a7 (fun z => absurd z a) (fun l2 row2 _ b2 c2 d2 => ?_) (fun _ z => absurd z (by rw [b]; simp))
        have : l' = l2 := by rw [b] at b2; exact Option.some.inj b2
        subst this
        exact hK _ _ _ _ _ _
      · exact goRoad8 b5 b6 a7 (fun z => absurd z a) (fun l2 row2 _ b2 => absurd b2 (by rw [b]; simp)) (fun _ _ n row' => hK _ _ _ _ _ _)
    · rw [if_neg hr]
      refine ⟨fun z => absurd rfl z, fun _ => isRoad8 ?_⟩
      rw [if_pos hrd]
      refine ⟨fun z => absurd z (by omega), fun _ => isReg8 ?_⟩
      rw [if_neg hr]
      exact ⟨fun z => absurd rfl z, fun _ => hK _ _ _ _ _ _⟩
  · refine isRoad7 ?_
    rw [if_neg hrd]
    refine ⟨fun _ => isRoad8 ?_, fun z => absurd rfl z⟩
    rw [if_neg hrd]
    exact ⟨fun _ => hK _ _ _ _ _ _, fun z => absurd rfl z⟩
theorem share_ok {sa sb mu md : Int → Int} (hI : RG sa sb mu md) (rd r i : Int) {sh : Int → Int} {sz : Int} {mm : Int} {row : Int → Int} {sp : Int} {K : Int → (Int → Int) → Int → Int → Int → (Int → Int) → Int → Prop} (hK : ∀ v sh' sz' mm' row' sp', K v sh' sz' v mm' row' sp') :
    wp_X7_share (fun v sh' sz' => wp_X8_share (fun v2 mm' row' sp' => K v sh' sz' v2 mm' row' sp') mu md mm row sp rd r i) sa sb sh sz rd r i := by
  unfold wp_X7_share wp_X7_share_18 wp_X7_share_70 wp_X8_share wp_X8_share_18 wp_X8_share_80
  by_cases hrd : 0 ≤ rd ∧ rd < 5
  · refine isRoad7 ?_
    rw [if_pos hrd]
    refine ⟨fun z => absurd z (by omega), fun _ => isReg7 ?_⟩
    by_cases hr : 0 ≤ r ∧ r < 8
    · rw [if_pos hr]
      refine ⟨fun z => absurd z (by omega), fun _ => ⟨fun hi => ⟨hr.1, hr.2, hr.1, hr.2, ?_⟩, fun hi => ?_⟩⟩
      · obtain ⟨a1, a2, a3, a4, a5, a6, a7⟩ := hI r hr.1 hr.2
        rw [← a1, ← a2]
        have e1 : sa r = (((sa r).toNat : Nat) : Int) := by omega
        have e2 : sb r = (((sb r).toNat : Nat) : Int) := by omega
        have e3 : rd = ((rd.toNat : Nat) : Int) := by omega
        have b6 : (sb r).toNat ≤ 1000000 := by omega
        have b5 : rd.toNat < 5 := by omega
        generalize (sa r).toNat = p at e1 a7
        generalize (sb r).toNat = q at e2 a7 b6
        generalize rd.toNat = d at e3 b5
        rw [e1, e2, e3]
        have w8 : ∀ {Q : Int → Int → (Int → Int) → Int → Prop} {QQ : Int → Int → (Int → Int) → Int → Prop}, wp_X8_goRoad QQ mm row sp d p q → wp_X8_isRoad (fun x1 => (x1 = 0 → Q (-1) mm row sp) ∧ (¬ x1 = 0 → wp_X8_isRegister (fun x8 => (x8 = 0 → Q (-1) mm row sp) ∧ (¬ x8 = 0 → (0 ≤ i → 0 ≤ r ∧ r < 8 ∧ 0 ≤ r ∧ r < 8 ∧ wp_X8_goRoad QQ mm row sp d p q) ∧ (¬ 0 ≤ i → Q (-1) mm row sp))) r)) d := by
          intro Q QQ h
          refine isRoad8 ?_
          rw [if_pos (by omega)]
          refine ⟨fun z => absurd z (by omega), fun _ => isReg8 ?_⟩
          rw [if_pos hr]
          exact ⟨fun z => absurd z (by omega), fun _ => ⟨fun _ => ⟨hr.1, hr.2, hr.1, hr.2, h⟩, fun z => absurd hi z⟩⟩
        refine follow7 b5 b6 a7 (fun a => ⟨fun z => absurd z (by omega), fun _ => w8 ?_⟩) (fun l' sh' a b c dd => ?_) (fun a b sh' v => ⟨fun z => absurd z (by omega), fun _ => w8 ?_⟩)
        · exact goRoad8 b5 b6 a7 (fun _ => ⟨fun z => absurd z (by omega), fun _ => hK _ _ _ _ _ _⟩) (fun _ _ z => absurd a z) (fun z => absurd a z)
        · have hlen := c.1
          refine ⟨fun _ => ⟨fun w => w8 ?_, fun w => ?_⟩, fun z => absurd z (by omega)⟩
          · refine goRoad8 b5 b6 a7 (fun z => absurd z a) (fun l2 row2 _ b2 c2 d2 => ?_) (fun _ z => absurd z (by rw [b]; simp))
            have : l' = l2 := by rw [b] at b2; exact Option.some.inj b2
            subst this
            refine ⟨fun _ => ⟨⟨by omega, by omega⟩, in8 ?_⟩, fun z => absurd z (by omega)⟩
            rw [if_neg (by omega)]
            exact ⟨fun _ => hK _ _ _ _ _ _, fun z => absurd rfl z⟩
          · unfold wp_X3_at wp_X3_at_30 wp_X3_at_31
            refine ⟨fun z => absurd z (by omega), fun _ => ⟨fun z => absurd z (by omega), fun _ => ⟨fun z => absurd z (by omega), fun _ => ⟨by omega, by omega, w8 ?_⟩⟩⟩⟩
            refine goRoad8 b5 b6 a7 (fun z => absurd z a) (fun l2 row2 _ b2 c2 d2 => ?_) (fun _ z => absurd z (by rw [b]; simp))
            have : l' = l2 := by rw [b] at b2; exact Option.some.inj b2
            subst this
            refine ⟨fun _ => ⟨⟨by omega, by omega⟩, in8 ?_⟩, fun z => absurd z (by omega)⟩
            rw [if_pos (by omega)]
            have ei : i = ((i.toNat : Nat) : Int) := by omega
            have k1 := dd i.toNat (by omega)
            have k2 := d2 i.toNat (by omega)
            rw [← ei] at k1 k2
            refine ⟨fun z => absurd z (by omega), fun _ => ⟨by omega, by omega, ?_⟩⟩
            rw [k1, k2]
            exact hK _ _ _ _ _ _
        · exact goRoad8 b5 b6 a7 (fun z => absurd z a) (fun l2 row2 _ b2 => absurd b2 (by rw [b]; simp)) (fun _ _ n row' => ⟨fun z => absurd z (by omega), fun _ => hK _ _ _ _ _ _⟩)
      · refine isRoad8 ?_
        rw [if_pos hrd]
        refine ⟨fun z => absurd z (by omega), fun _ => isReg8 ?_⟩
        rw [if_pos hr]
        exact ⟨fun z => absurd z (by omega), fun _ => ⟨fun z => absurd z hi, fun _ => hK _ _ _ _ _ _⟩⟩
    · rw [if_neg hr]
      refine ⟨fun _ => isRoad8 ?_, fun z => absurd rfl z⟩
      rw [if_pos hrd]
      refine ⟨fun z => absurd z (by omega), fun _ => isReg8 ?_⟩
      rw [if_neg hr]
      exact ⟨fun _ => hK _ _ _ _ _ _, fun z => absurd rfl z⟩
  · refine isRoad7 ?_
    rw [if_neg hrd]
    refine ⟨fun _ => isRoad8 ?_, fun z => absurd rfl z⟩
    rw [if_neg hrd]
    exact ⟨fun _ => hK _ _ _ _ _ _, fun z => absurd rfl z⟩
/-- whole loaves and pieces left, over the first n -/
def cutN (q v : Nat) : Nat := (q + v - 1) / v
def whN (l : List Nat) (q : Nat) : Nat → Nat
  | 0 => 0
  | n + 1 => whN l q n + cutN q (srow l n).toNat
def leN (l : List Nat) (q : Nat) : Nat → Nat
  | 0 => 0
  | n + 1 => leN l q n + (cutN q (srow l n).toNat * (srow l n).toNat - q)
theorem cutN_b {q v : Nat} (hv : 1 ≤ v) (hq : q ≤ 1000) : cutN q v ≤ 1000 ∧ q ≤ cutN q v * v ∧ cutN q v * v < q + v := by
  have := ceil_ge (q := q) (p := v) hv
  refine ⟨?_, this.1, this.2⟩
  have h1 : cutN q v < 1001 := by
    unfold cutN
    rw [Nat.div_lt_iff_lt_mul hv]
    have : 1000 ≤ 1000 * v := Nat.le_mul_of_pos_right _ hv
    omega
  omega
theorem srow_b {l : List Nat} (hl : okL l) {j : Nat} (hj : j < l.length) : srow l j = (((srow l j).toNat : Nat) : Int) ∧ 1 ≤ (srow l j).toNat ∧ (srow l j).toNat ≤ 1000000000000 := by
  obtain ⟨v, hv, hv2⟩ := srow_mem hj
  have := hl.2 v hv
  rw [hv2]
  omega
theorem whN_b {l : List Nat} {q : Nat} (hl : okL l) (hq : q ≤ 1000) : ∀ n, n ≤ l.length → whN l q n ≤ 1000 * n := by
  intro n
  induction n with
  | zero => intro _; rw [whN]; omega
  | succ n ih =>
    intro h
    rw [whN]
    have := ih (by omega)
    have := (cutN_b (q := q) (srow_b hl (show n < l.length by omega)).2.1 hq).1
    omega
theorem leN_b {l : List Nat} {q : Nat} (hl : okL l) (hq : q ≤ 1000) : ∀ n, n ≤ l.length → leN l q n ≤ 1000000000000 * n := by
  intro n
  induction n with
  | zero => intro _; rw [leN]; omega
  | succ n ih =>
    intro h
    rw [leN]
    have := ih (by omega)
    have b := srow_b hl (show n < l.length by omega)
    have := (cutN_b (q := q) b.2.1 hq)
    generalize cutN q (srow l n).toNat * (srow l n).toNat = z at *
    omega
theorem at3 {Q : Int → Prop} {sh : Int → Int} {n j : Nat} (hj : j < n) (hn : n ≤ 16) (h : Q (sh j)) : wp_X3_at Q sh n j := by
  unfold wp_X3_at wp_X3_at_30 wp_X3_at_31
  exact ⟨fun z => absurd z (by omega), fun _ => ⟨fun z => absurd z (by omega), fun _ => ⟨fun z => absurd z (by omega), fun _ => ⟨by omega, by omega, h⟩⟩⟩⟩
theorem whole7 {Q : Int → Prop} {l : List Nat} {q : Nat} {sh : Int → Int} (hl : okL l) (hq : q ≤ 1000) (hs : ∀ j : Nat, j < l.length → sh j = srow l j) (h : Q (whN l q l.length : Nat)) : ∀ (d j : Nat), j + d = l.length → wp_X7_wholeLoaves_5 Q sh (l.length : Nat) (d + 1) (l.length : Nat) q (whN l q j : Nat) j := by
  intro d
  induction d with
  | zero =>
    intro j hj
    have : j = l.length := by omega
    subst this
    rw [wp_X7_wholeLoaves_5]
    exact ⟨fun _ => h, fun z => absurd z (by omega)⟩
  | succ d ih =>
    intro j hj
    rw [wp_X7_wholeLoaves_5]
    have hl1 := hl.1
    refine ⟨fun z => absurd z (by omega), fun _ => at3 (by omega) hl.1 ?_⟩
    obtain ⟨b1, b2, b3⟩ := srow_b hl (show j < l.length by omega)
    rw [hs j (by omega), b1]
    have hw := whN_b (q := q) hl hq j (by omega)
    have hc := cutN_b (q := q) b2 hq
    refine roundedUp7 b2 (by omega) ?_
    have e : ((q + (srow l j).toNat - 1) / (srow l j).toNat : Nat) = cutN q (srow l j).toNat := rfl
    rw [e]
    refine ⟨⟨by omega, by omega⟩, fun x hx => ⟨⟨by omega, by omega⟩, ?_⟩⟩
    have ex : x = ((whN l q (j + 1) : Nat) : Int) := by rw [hx, whN]; rfl
    have ej : (j : Int) + 1 = ((j + 1 : Nat) : Int) := rfl
    rw [ex, ej]
    exact ih (j + 1) (by omega)
theorem pieces7 {Q : Int → Prop} {l : List Nat} {q : Nat} {sh : Int → Int} (hl : okL l) (hq : q ≤ 1000) (hs : ∀ j : Nat, j < l.length → sh j = srow l j) (h : Q (leN l q l.length : Nat)) : ∀ (d j : Nat), j + d = l.length → wp_X7_piecesLeft_5 Q sh (l.length : Nat) (d + 1) (l.length : Nat) q (leN l q j : Nat) j := by
  intro d
  induction d with
  | zero =>
    intro j hj
    have : j = l.length := by omega
    subst this
    rw [wp_X7_piecesLeft_5]
    exact ⟨fun _ => h, fun z => absurd z (by omega)⟩
  | succ d ih =>
    intro j hj
    rw [wp_X7_piecesLeft_5]
    have hl1 := hl.1
    refine ⟨fun z => absurd z (by omega), fun _ => at3 (by omega) hl.1 ?_⟩
    obtain ⟨b1, b2, b3⟩ := srow_b hl (show j < l.length by omega)
    rw [hs j (by omega), b1]
    have hw := leN_b (q := q) hl hq j (by omega)
    have hc := cutN_b (q := q) b2 hq
    refine roundedUp7 b2 (by omega) ?_
    have e : ((q + (srow l j).toNat - 1) / (srow l j).toNat : Nat) = cutN q (srow l j).toNat := rfl
    rw [e]
    have e2 : leN l q (j + 1) = leN l q j + (cutN q (srow l j).toNat * (srow l j).toNat - q) := rfl
    have e3 : ((cutN q (srow l j).toNat : Nat) : Int) * (((srow l j).toNat : Nat) : Int) = ((cutN q (srow l j).toNat * (srow l j).toNat : Nat) : Int) := rfl
    rw [e3]
    generalize cutN q (srow l j).toNat * (srow l j).toNat = z at *
    refine ⟨⟨by omega, by omega⟩, ⟨by omega, by omega⟩, ⟨by omega, by omega⟩, fun x hx => ⟨⟨by omega, by omega⟩, ?_⟩⟩
    have ex : x = ((leN l q (j + 1) : Nat) : Int) := by omega
    have ej : (j : Int) + 1 = ((j + 1 : Nat) : Int) := rfl
    rw [ex, ej]
    exact ih (j + 1) (by omega)
theorem loav97 {Q : Int → Int → (Int → Int) → Int → Prop} {l : List Nat} {q : Nat} {mm : Int} {row : Int → Int} {sp w : Int} (hl : okL l) (hq : q ≤ 1000) (hs : ∀ j : Nat, j < l.length → row j = srow l j)
    (h0 : w = 0 → Q ((q : Int) * (l.length : Nat)) mm row sp) (h1 : w = 1 → Q (whN l q l.length : Nat) mm row sp) (h2 : ¬ w = 0 → ¬ w = 1 → Q (leN l q l.length : Nat) mm row sp) :
    ∀ (d j : Nat), j + d = l.length → wp_X8_loaves_97 Q (d + 1) mm row sp q w (l.length : Nat) (whN l q j : Nat) (leN l q j : Nat) j := by
  intro d
  induction d with
  | zero =>
    intro j hj
    have : j = l.length := by omega
    subst this
    rw [wp_X8_loaves_97]
    unfold wp_X8_loaves_184
    have hl1 := hl.1
    have hb : q * l.length ≤ 1000 * 16 := Nat.mul_le_mul hq hl1
    have e3 : (q : Int) * ((l.length : Nat) : Int) = ((q * l.length : Nat) : Int) := rfl
    refine ⟨fun _ => ⟨fun z => ⟨fun y => h2 z y, fun y => h1 y⟩, fun z => ⟨?_, h0 z⟩⟩, fun z => absurd z (by omega)⟩
    rw [e3]
    generalize q * l.length = z at hb
    exact ⟨by omega, by omega⟩
  | succ d ih =>
    intro j hj
    rw [wp_X8_loaves_97]
    have hl1 := hl.1
    obtain ⟨b1, b2, b3⟩ := srow_b hl (show j < l.length by omega)
    rw [hs j (by omega), b1]
    have hw := leN_b (q := q) hl hq j (by omega)
    have hw1 := whN_b (q := q) hl hq j (by omega)
    have hc := cutN_b (q := q) b2 hq
    have e0 : (q : Int) + (((srow l j).toNat : Nat) : Int) - 1 = ((q + (srow l j).toNat - 1 : Nat) : Int) := by omega
    rw [e0, nm_tdiv]
    have e : ((q + (srow l j).toNat - 1) / (srow l j).toNat : Nat) = cutN q (srow l j).toNat := rfl
    rw [e]
    have e2 : leN l q (j + 1) = leN l q j + (cutN q (srow l j).toNat * (srow l j).toNat - q) := rfl
    have e4 : whN l q (j + 1) = whN l q j + cutN q (srow l j).toNat := rfl
    have e3 : ((cutN q (srow l j).toNat : Nat) : Int) * (((srow l j).toNat : Nat) : Int) = ((cutN q (srow l j).toNat * (srow l j).toNat : Nat) : Int) := rfl
    have ih2 := ih (j + 1) (by omega)
    rw [e2, e4] at ih2
    generalize whN l q j = W at *
    generalize leN l q j = L at *
    generalize hcc : cutN q (srow l j).toNat = c at *
    generalize hzz : c * (srow l j).toNat = z at *
    refine ⟨fun y => absurd y (by omega), fun _ => ⟨by omega, by omega, ⟨by omega, by omega⟩, ⟨by omega, by omega⟩, by omega, by omega, by omega, fun x hx => ?_⟩⟩
    rw [hx, e3]
    refine ⟨⟨by omega, by omega⟩, fun y hy => ⟨by omega, by omega, ⟨by omega, by omega⟩, ⟨by omega, by omega⟩, ⟨by omega, by omega⟩, fun u hu => ⟨⟨by omega, by omega⟩, ?_⟩⟩⟩
    have ey : y = ((W + c : Nat) : Int) := by omega
    have eu : u = ((L + (z - q) : Nat) : Int) := by omega
    have ej : (j : Int) + 1 = ((j + 1 : Nat) : Int) := rfl
    rw [ey, eu, ej]
    exact ih2
theorem loaves_ok (rd p q w : Int) {sh : Int → Int} {sz : Int} {mm : Int} {row : Int → Int} {sp : Int} {K : Int → (Int → Int) → Int → Int → Int → (Int → Int) → Int → Prop} (hK : ∀ v sh' sz' mm' row' sp', K v sh' sz' v mm' row' sp') :
    wp_X7_loaves (fun v sh' sz' => wp_X8_loaves (fun v2 mm' row' sp' => K v sh' sz' v2 mm' row' sp') mm row sp rd p q w) sh sz rd p q w := by
  -- the reference, where it answers BAD
  have bad : ∀ {Q : Int → Int → (Int → Int) → Int → Prop}, ¬ ((0 ≤ rd ∧ rd < 5) ∧ 1 ≤ p ∧ q ≤ 1000 ∧ p < q ∧ 0 ≤ w ∧ w ≤ 2) → Q (-1) mm row sp → wp_X8_loaves Q mm row sp rd p q w := by
    intro Q hn hQ
    unfold wp_X8_loaves wp_X8_loaves_49
    refine isRoad8 ?_
    by_cases h1 : 0 ≤ rd ∧ rd < 5
    · rw [if_pos h1]
      refine ⟨fun z => absurd z (by omega), fun _ => in8 ?_⟩
      by_cases h2 : 1 ≤ p ∧ p ≤ 1000
      · rw [if_pos h2]
        refine ⟨fun z => absurd z (by omega), fun _ => in8 ?_⟩
        by_cases h3 : 1 ≤ q ∧ q ≤ 1000
        · rw [if_pos h3]
          refine ⟨fun z => absurd z (by omega), fun _ => ⟨fun _ => hQ, fun h4 => in8 ?_⟩⟩
          rw [if_neg (by omega)]
          exact ⟨fun z => absurd rfl z, fun _ => hQ⟩
        · rw [if_neg h3]; exact ⟨fun _ => hQ, fun z => absurd rfl z⟩
      · rw [if_neg h2]; exact ⟨fun _ => hQ, fun z => absurd rfl z⟩
    · rw [if_neg h1]; exact ⟨fun _ => hQ, fun z => absurd rfl z⟩
  unfold wp_X7_loaves wp_X7_loaves_35 wp_X7_loaves_108
  refine isRoad7 ?_
  by_cases hrd : 0 ≤ rd ∧ rd < 5
  · rw [if_pos hrd]
    refine ⟨fun z => absurd z (by omega), fun _ => ⟨fun z => bad (by omega) (hK _ _ _ _ _ _), fun h1 => ⟨fun z => bad (by omega) (hK _ _ _ _ _ _), fun h2 => ⟨fun z => bad (by omega) (hK _ _ _ _ _ _), fun h3 => ⟨fun z => bad (by omega) (hK _ _ _ _ _ _), fun h4 => ⟨fun h5 => ?_, fun z => bad (by omega) (hK _ _ _ _ _ _)⟩⟩⟩⟩⟩⟩
    obtain ⟨P, hP⟩ := Int.eq_ofNat_of_zero_le (show 0 ≤ p by omega)
    obtain ⟨Q', hQ'⟩ := Int.eq_ofNat_of_zero_le (show 0 ≤ q by omega)
    obtain ⟨R, hR⟩ := Int.eq_ofNat_of_zero_le (show 0 ≤ rd by omega)
    subst hP hQ' hR
    refine cd7' (by omega) (by omega) ?_
    have hgp : 0 < Nat.gcd P Q' := Nat.gcd_pos_of_pos_right _ (by omega)
    have hgl : Nat.gcd P Q' ≤ Q' := Nat.gcd_le_right _ (by omega)
    have hg1 : Nat.gcd (P / Nat.gcd P Q') (Q' / Nat.gcd P Q') = 1 := by rw [Nat.gcd_div (Nat.gcd_dvd_left P Q') (Nat.gcd_dvd_right P Q'), Nat.div_self hgp]
    have hQl : Q' / Nat.gcd P Q' ≤ 1000000 := Nat.le_trans (Nat.div_le_self _ _) (by omega)
    simp only [nm_tdiv]
    refine ⟨⟨by omega, by omega⟩, by omega, by omega, ?_⟩
    have w8 : ∀ {Q : Int → Int → (Int → Int) → Int → Prop}, wp_X8_goRoad (fun (x74 : Int) (m_many_74 : Int) (m_row_74 : Int → Int) (m_isSpent_74 : Int) => ((0 ≤ x74 → (∃ n0 : Nat, wp_X8_loaves_97 Q n0 m_many_74 m_row_74 m_isSpent_74 Q' w x74 0 0 0)) ∧ (¬ (0 ≤ x74) → Q x74 m_many_74 m_row_74 m_isSpent_74))) mm row sp R ((P / Nat.gcd P Q' : Nat) : Int) ((Q' / Nat.gcd P Q' : Nat) : Int) → wp_X8_loaves Q mm row sp R P Q' w := by
      intro Q h
      unfold wp_X8_loaves wp_X8_loaves_49
      refine isRoad8 ?_
      rw [if_pos hrd]
      refine ⟨fun z => absurd z (by omega), fun _ => in8 ?_⟩
      rw [if_pos (by omega)]
      refine ⟨fun z => absurd z (by omega), fun _ => in8 ?_⟩
      rw [if_pos (by omega)]
      refine ⟨fun z => absurd z (by omega), fun _ => ⟨fun z => absurd z (by omega), fun _ => in8 ?_⟩⟩
      rw [if_pos (by omega)]
      refine ⟨fun _ => gcd8 ?_, fun z => absurd z (by omega)⟩
      simp only [nm_tdiv]
      exact ⟨by omega, by omega, h⟩
    refine follow7 (by omega) hQl hg1 (fun a => ⟨fun z => absurd z (by omega), fun _ => w8 ?_⟩) (fun l' sh' a b c dd => ?_) (fun a b sh' v => ⟨fun z => absurd z (by omega), fun _ => w8 ?_⟩)
    · exact goRoad8 (by omega) hQl hg1 (fun _ => ⟨fun z => absurd z (by omega), fun _ => hK _ _ _ _ _ _⟩) (fun _ _ z => absurd a z) (fun z => absurd a z)
    · have hl1 := c.1
      have hb : l'.length * Q' ≤ 16 * 1000 := Nat.mul_le_mul hl1 (by omega)
      have eA : ((l'.length : Nat) : Int) * (Q' : Int) = ((l'.length * Q' : Nat) : Int) := rfl
      have ref : ∀ v : Int, v = (if w = 0 then ((l'.length * Q' : Nat) : Int) else if w = 1 then ((whN l' Q' l'.length : Nat) : Int) else ((leN l' Q' l'.length : Nat) : Int)) → wp_X8_loaves (fun v2 mm' row' sp' => K v sh' (l'.length : Nat) v2 mm' row' sp') mm row sp R P Q' w := by
        intro v hv
        refine w8 ?_
        refine goRoad8 (by omega) hQl hg1 (fun z => absurd z a) (fun l2 row2 _ b2 c2 d2 => ?_) (fun _ z => absurd z (by rw [b]; simp))
        have : l' = l2 := by rw [b] at b2; exact Option.some.inj b2
        subst this
        refine ⟨fun _ => ⟨l'.length + 1, loav97 c (by omega) d2 (fun z => ?_) (fun z => ?_) (fun z y => ?_) l'.length 0 (by omega)⟩, fun z => absurd z (by omega)⟩
        · rw [if_pos z] at hv
          have e5 : (Q' : Int) * ((l'.length : Nat) : Int) = v := by rw [hv, ← eA, Int.mul_comm]
          rw [e5]
          exact hK _ _ _ _ _ _
        · rw [if_neg (by omega), if_pos z] at hv
          rw [hv]
          exact hK _ _ _ _ _ _
        · rw [if_neg z, if_neg y] at hv
          rw [hv]
          exact hK _ _ _ _ _ _
      rw [eA]
      refine ⟨fun _ => ⟨fun z => ⟨fun y => ⟨l'.length + 1, pieces7 c (by omega) dd (ref _ (by rw [if_neg z, if_neg y])) l'.length 0 (by omega)⟩, fun y => ⟨l'.length + 1, whole7 c (by omega) dd (ref _ (by rw [if_neg z, if_pos y])) l'.length 0 (by omega)⟩⟩, fun z => ⟨?_, ref _ (by rw [if_pos z])⟩⟩, fun z => absurd z (by omega)⟩
      generalize l'.length * Q' = z at hb
      exact ⟨by omega, by omega⟩
    · exact goRoad8 (by omega) hQl hg1 (fun z => absurd z a) (fun l2 row2 _ b2 => absurd b2 (by rw [b]; simp)) (fun _ _ n row' => ⟨fun z => absurd z (by omega), fun _ => hK _ _ _ _ _ _⟩)
  · rw [if_neg hrd]
    exact ⟨fun _ => bad (by omega) (hK _ _ _ _ _ _), fun z => absurd rfl z⟩
