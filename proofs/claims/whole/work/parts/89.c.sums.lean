/-! ===== sums, sum, count: both sides ===== -/
def gm (l l' : List Nat) : Nat := (l.filter (fun x => !decide (x ∈ l'))).length
def cutR (l l' : List Nat) : Prop := (gm l l' = 1 ∧ gm l' l = 2) ∨ (gm l l' = 2 ∧ gm l' l = 1)
def adjD (D : List (List Nat)) (i j : Nat) : Prop := ∃ l l', D[i]? = some l ∧ D[j]? = some l' ∧ cutR l l'
def BC (D : List (List Nat)) (di re : Int → Int) (so lo en : Int) : Prop := so = -1 ∨ ∃ (s h : Nat) (qu : List Nat), so = s ∧ lo = h ∧ en = (qu.length : Nat) ∧ rep re qu ∧ s < D.length ∧ BF D.length (adjD D) s di qu h
def FI (rows di re : Int → Int) (th sz mo so lo en fo : Int) (ma sh st : Int → Int) : Prop :=
  (th = 0 ∧ sz = 0 ∧ fo = -1) ∨ (th = 1 ∧ ∃ (D : List (List Nat)) (k : Nat), DD D k ∧ sz = (D.length : Nat) ∧ fo = (D.length : Nat) ∧ mo = k ∧ (∀ (i : Nat) (l : List Nat), D[i]? = some l → isRow (rows i) l) ∧ Stor D ma sh st ∧ BC D di re so lo en)
theorem settle1 {Q : Int → Int → Int → Int → Int → Prop} {th sz mo so v k : Int} (h1 : 2000 < v → Q (-5) 0 0 k (-1)) (h2 : ¬ 2000 < v → Q v 1 v k (-1)) : wp_X1_settle Q th sz mo so v k := by
  unfold wp_X1_settle wp_X1_settle_13 wp_X1_settle_29 wp_X1_settle_58
  exact ⟨fun z => ⟨Or.inl rfl, fun _ => ⟨fun _ => h1 z, fun w => absurd rfl w⟩, fun w => absurd rfl w⟩, fun z => ⟨Or.inr rfl, fun w => absurd w (by omega), fun _ => ⟨fun w => absurd w (by omega), fun _ => h2 z⟩⟩⟩
theorem sums8 {Q : Int → Int → (Int → Int) → (Int → Int) → (Int → Int) → (Int → Int) → (Int → Int) → (Int → Int) → Int → Prop} {mu md : Int → Int} {fo : Int} {ma sh st ta ru rd : Int → Int} {fe r n k : Int}
    (hb : ¬ ((0 ≤ r ∧ r < 8) ∧ (2 ≤ n ∧ n ≤ 60) ∧ 1 ≤ k ∧ k ≤ 6) → Q (-1) fo ma sh st ta ru rd fe)
    (hn : (0 ≤ r ∧ r < 8) ∧ (2 ≤ n ∧ n ≤ 60) ∧ 1 ≤ k ∧ k ≤ 6 → ¬ (0 < mu r ∧ mu r < md r) → Q (-2) fo ma sh st ta ru rd fe)
    (hg : (0 ≤ r ∧ r < 8) ∧ (2 ≤ n ∧ n ≤ 60) ∧ 1 ≤ k ∧ k ≤ 6 → (0 < mu r ∧ mu r < md r) → wp_X8_findSums (fun fo ma sh st ta ru rd fe => (0 ≤ fo → Q fo fo ma sh st ta ru rd fe) ∧ (¬ 0 ≤ fo → Q (-5) fo ma sh st ta ru rd fe)) fo ma sh st ta ru rd fe (mu r) (md r) n k 1) :
    wp_X8_sums Q mu md fo ma sh st ta ru rd fe r n k := by
  unfold wp_X8_sums wp_X8_sums_33 wp_X8_sums_83
  refine isReg8 ?_
  by_cases hr : 0 ≤ r ∧ r < 8
  · rw [if_pos hr]
    refine ⟨fun z => absurd z (by omega), fun _ => in8 ?_⟩
    by_cases h2 : 2 ≤ n ∧ n ≤ 60
    · rw [if_pos h2]
      refine ⟨fun z => absurd z (by omega), fun _ => in8 ?_⟩
      by_cases h3 : 1 ≤ k ∧ k ≤ 6
      · rw [if_pos h3]
        refine ⟨fun _ => isPart8 hr.1 hr.2 ?_, fun z => absurd z (by omega)⟩
        by_cases hp : 0 < mu r ∧ mu r < md r
        · rw [if_pos hp]
          exact ⟨fun _ => ⟨hr.1, hr.2, hr.1, hr.2, hg ⟨hr, h2, h3⟩ hp⟩, fun z => absurd z (by omega)⟩
        · rw [if_neg hp]
          exact ⟨fun z => absurd rfl z, fun _ => hn ⟨hr, h2, h3⟩ hp⟩
      · rw [if_neg h3]
        exact ⟨fun z => absurd rfl z, fun _ => hb (fun w => h3 w.2.2)⟩
    · rw [if_neg h2]
      exact ⟨fun _ => hb (fun w => h2 w.2.1), fun z => absurd rfl z⟩
  · rw [if_neg hr]
    exact ⟨fun _ => hb (fun w => hr w.1), fun z => absurd rfl z⟩
theorem sums_ok {sa sb mu md : Int → Int} (hI : RG sa sb mu md) {tr le nu we wa gr pf : Int → Int} {ba li si pa wn nf : Int} {rows di re : Int → Int} {th sz mo so lo en fo : Int} {ma sh st ta ru rd : Int → Int} {fe : Int} (hwa : wa 0 = 0) (hF : FI rows di re th sz mo so lo en fo ma sh st) (r n k : Int)
    {K : Int → (Int → Int) → (Int → Int) → (Int → Int) → (Int → Int) → (Int → Int) → (Int → Int) → (Int → Int) → Int → Int → Int → Int → Int → Int → (Int → Int) → Int → Int → Int → Int → Int → Int → (Int → Int) → (Int → Int) → (Int → Int) → (Int → Int) → (Int → Int) → (Int → Int) → Int → Prop}
    (hK : ∀ v tr le nu we (wa : Int → Int) gr pf ba li si pa wn nf rows th sz mo so fo ma sh st ta ru rd fe, wa 0 = 0 → FI rows di re th sz mo so lo en fo ma sh st → K v tr le nu we wa gr pf ba li si pa wn nf rows th sz mo so v fo ma sh st ta ru rd fe) :
    wp_X7_sums (fun v tr le nu we wa gr pf ba li si pa wn nf rows th sz mo so => wp_X8_sums (fun v2 fo ma sh st ta ru rd fe => K v tr le nu we wa gr pf ba li si pa wn nf rows th sz mo so v2 fo ma sh st ta ru rd fe) mu md fo ma sh st ta ru rd fe r n k) sa sb tr le nu we wa gr pf ba li si pa wn nf rows th sz mo so r n k := by
  unfold wp_X7_sums wp_X7_sums_29
  refine isReg7 ?_
  have bad : ¬ ((0 ≤ r ∧ r < 8) ∧ (2 ≤ n ∧ n ≤ 60) ∧ 1 ≤ k ∧ k ≤ 6) → wp_X8_sums (fun v2 fo ma sh st ta ru rd fe => K (-1) tr le nu we wa gr pf ba li si pa wn nf rows th sz mo so v2 fo ma sh st ta ru rd fe) mu md fo ma sh st ta ru rd fe r n k :=
    fun hb => sums8 (fun _ => hK _ _ _ _ _ _ _ _ _ _ _ _ _ _ _ _ _ _ _ _ _ _ _ _ _ _ _ hwa hF) (fun z _ => absurd z hb) (fun z _ => absurd z hb)
  by_cases hr : 0 ≤ r ∧ r < 8
  · rw [if_pos hr]
    refine ⟨fun z => absurd z (by omega), fun _ => ⟨fun z => bad (by omega), fun z1 => ⟨fun z => bad (by omega), fun z2 => ⟨fun z => bad (by omega), fun z3 => ⟨fun z4 => isProper7 ?_, fun z => bad (by omega)⟩⟩⟩⟩⟩
    obtain ⟨p, q, e1, e2, e3, e4, b1, b2, b3, b4⟩ := reg_nat hI hr.1 hr.2
    rw [e1, e2]
    have hV : (0 ≤ r ∧ r < 8) ∧ (2 ≤ n ∧ n ≤ 60) ∧ 1 ≤ k ∧ k ≤ 6 := by omega
    by_cases hp : (0 ≤ r ∧ r < 8) ∧ 0 < (p : Int) ∧ (p : Int) < q
    · rw [if_pos hp]
      refine ⟨fun _ => ⟨hr.1, hr.2, hr.1, hr.2, ?_⟩, fun z => absurd z (by omega)⟩
      obtain ⟨n', rfl⟩ : ∃ n' : Nat, n = n' := ⟨n.toNat, by omega⟩
      obtain ⟨k', rfl⟩ : ∃ k' : Nat, k = k' := ⟨k.toNat, by omega⟩
      refine prepare2 (p := p) (q := q) (n := n') (by omega) (by omega) (by omega) (by omega) b4 b3 hwa (fun tr' le' nu' we' wa' gr' pf' ba' li' si' pa' wn' hFP => ?_)
      unfold wp_X1_room
      refine collect2 (z := 2001) (by omega) (by omega) (by omega) hFP (fun f' n'' hRS => ?_)
      have hn'' := hRS.1
      refine settle1 (fun hbig => ?_) (fun hsm => ?_)
      · refine sums8 (fun z => absurd hV z) (fun _ z => absurd (by rw [e3, e4]; exact hp.2) z) (fun _ _ => ?_)
        rw [e3, e4]
        refine findSums8 (by omega) (by omega) b3 (by omega) (by omega) (by omega) (by omega) (fun z => absurd z (by omega)) (fun _ ma' sh' st' ta' ru' rd' fe' => ⟨fun z => absurd z (by omega), fun _ => ?_⟩)
        exact hK _ _ _ _ _ _ _ _ _ _ _ _ _ _ _ _ _ _ _ _ _ _ _ _ _ _ _ hFP.1 (Or.inl ⟨rfl, rfl, rfl⟩)
      · refine sums8 (fun z => absurd hV z) (fun _ z => absurd (by rw [e3, e4]; exact hp.2) z) (fun _ _ => ?_)
        rw [e3, e4]
        refine findSums8 (by omega) (by omega) b3 (by omega) (by omega) (by omega) (by omega) (fun hl ma' sh' st' ta' ru' rd' fe' hS => ⟨fun _ => ?_, fun z => absurd z (by omega)⟩) (fun z => absurd z (by omega))
        have en : n'' = ((TS p q n' k').length : Nat) := by omega
        rw [en]
        exact hK _ _ _ _ _ _ _ _ _ _ _ _ _ _ _ _ _ _ _ _ _ _ _ _ _ _ _ hFP.1 (Or.inr ⟨rfl, _, k', DD_TS (by omega) (by omega) (by omega) (by omega) (by omega) hl, rfl, rfl, rfl, fun i l hil => hRS.2 i l (by have := (List.getElem?_eq_some_iff.mp hil).1; omega) hil, hS, Or.inl rfl⟩)
    · rw [if_neg hp]
      refine ⟨fun z => absurd rfl z, fun _ => sums8 (fun z => absurd hV z) (fun _ _ => hK _ _ _ _ _ _ _ _ _ _ _ _ _ _ _ _ _ _ _ _ _ _ _ _ _ _ _ hwa hF) (fun _ z => absurd (by rw [e3, e4] at z; exact ⟨hr, z⟩) hp)⟩
  · rw [if_neg hr]
    exact ⟨fun _ => bad (fun w => hr w.1), fun z => absurd rfl z⟩
theorem DD_get {D : List (List Nat)} {k : Nat} (h : DD D k) {i : Nat} (hi : i < D.length) : ∃ l, D[i]? = some l ∧ l ∈ D ∧ gdL k l ∧ upL l ∧ l.length ≤ 6 := by
  have e : D[i]? = some D[i] := List.getElem?_eq_getElem hi
  have hm := List.mem_of_getElem? e
  have := h.2.2.2.1 _ hm
  have h6 := h.2.2.1
  have h7 := this.1.2.1
  exact ⟨_, e, hm, this.1, this.2, by omega⟩
theorem sum_ok {rows di re : Int → Int} {th sz mo so lo en fo : Int} {ma sh st : Int → Int} (hF : FI rows di re th sz mo so lo en fo ma sh st) (i j : Int) {K : Int → Int → Prop} (hK : ∀ v, K v v) :
    wp_X7_sum (fun v => wp_X8_sum (fun v2 => K v v2) fo ma sh i j) rows th sz i j := by
  unfold wp_X7_sum wp_X7_sum_9 wp_X7_sum_75 wp_X8_sum wp_X8_sum_9 wp_X8_sum_88 wp_X1_isThere wp_X1_size
  refine ⟨fun h => ⟨fun _ => hK _, fun z => absurd h z⟩, fun h => ⟨fun hj => ?_, fun hj => ⟨fun z => absurd z h, fun _ => ⟨fun z => absurd z hj, fun _ => hK _⟩⟩⟩⟩
  rcases hF with ⟨rfl, rfl, rfl⟩ | ⟨rfl, D, k, hD, rfl, rfl, rfl, hrow, hS, -⟩
  · exact ⟨Or.inl rfl, fun z => absurd rfl z, fun _ => ⟨fun z => absurd z h, fun _ => ⟨fun _ => ⟨fun z => absurd z (by omega), fun _ => hK _⟩, fun z => absurd hj z⟩⟩⟩
  · refine ⟨Or.inr rfl, fun _ => ?_, fun z => absurd z (by omega)⟩
    have hDl := hD.1
    obtain ⟨i', rfl⟩ : ∃ i' : Nat, i = i' := ⟨i.toNat, by omega⟩
    refine ⟨fun hi => at1 (by omega) ?_, fun hi => ⟨fun z => absurd z h, fun _ => ⟨fun _ => ⟨fun _ => ⟨⟨by omega, by omega⟩, in8 ?_⟩, fun z => absurd z (by omega)⟩, fun z => absurd hj z⟩⟩⟩
    · obtain ⟨l, hl, hlm, hg, hu, h6⟩ := DD_get hD (show i' < D.length by omega)
      have hr := hrow i' l hl
      obtain ⟨s1, s2, s3⟩ := hS i' l hl
      have go : ∀ v, (¬ j = -1 → (0 ≤ (i' : Int) ∧ (i' : Int) < 2000 ∧ r32 ((ma i') - 1) ∧ wp_X8_in (fun x66 => ((x66 = 0 → K v (-4)) ∧ (¬ (x66 = 0) → (r32 (6 * (i' : Int)) ∧ r32 ((6 * (i' : Int)) + j) ∧ 0 ≤ ((6 * (i' : Int)) + j) ∧ ((6 * (i' : Int)) + j) < 12000 ∧ K v (sh ((6 * (i' : Int)) + j)))))) j 0 ((ma i') - 1))) → (j = -1 → K v (ma i')) → ((i' : Int) < 0 → K v (-1)) ∧ (¬ ((i' : Int) < 0) → (((-1) ≤ j → ((0 ≤ ((D.length : Nat) : Int) → (r32 (((D.length : Nat) : Int) - 1) ∧ wp_X8_in (fun x31 => ((¬ x31 = 0 → ((¬ j = -1 → (0 ≤ (i' : Int) ∧ (i' : Int) < 2000 ∧ r32 ((ma i') - 1) ∧ wp_X8_in (fun x66 => ((x66 = 0 → K v (-4)) ∧ (¬ (x66 = 0) → (r32 (6 * (i' : Int)) ∧ r32 ((6 * (i' : Int)) + j) ∧ 0 ≤ ((6 * (i' : Int)) + j) ∧ ((6 * (i' : Int)) + j) < 12000 ∧ K v (sh ((6 * (i' : Int)) + j)))))) j 0 ((ma i') - 1))) ∧ (j = -1 → (0 ≤ (i' : Int) ∧ (i' : Int) < 2000 ∧ K v (ma i'))))) ∧ (x31 = 0 → K v (-4)))) i' 0 (((D.length : Nat) : Int) - 1))) ∧ (¬ (0 ≤ ((D.length : Nat) : Int)) → K v (-2)))) ∧ (¬ ((-1) ≤ j) → K v (-1)))) := by
        intro v h1 h2
        refine ⟨fun z => absurd z h, fun _ => ⟨fun _ => ⟨fun _ => ⟨⟨by omega, by omega⟩, in8 ?_⟩, fun z => absurd z (by omega)⟩, fun z => absurd hj z⟩⟩
        rw [if_pos (by omega)]
        exact ⟨fun _ => ⟨h1, fun e => ⟨by omega, by omega, h2 e⟩⟩, fun z => absurd z (by omega)⟩
      refine ⟨fun hj1 => bitCount4 hr hu hg.2.2 ?_, fun hj1 => bitCount4 hr hu hg.2.2 (go _ (fun z => absurd hj1 z) (fun _ => by rw [s1]; exact hK _))⟩
      obtain ⟨j', rfl⟩ : ∃ j' : Nat, j = j' := ⟨j.toNat, by omega⟩
      refine ⟨fun hjl => go _ (fun _ => ⟨by omega, by omega, by rw [s1]; exact ⟨by omega, by omega⟩, in8 ?_⟩) (fun z => absurd z hj1), fun hjl => ?_⟩
      · rw [s1, if_neg (by omega)]
        exact ⟨fun _ => hK _, fun z => absurd rfl z⟩
      · have hjn : j' < l.length := by omega
        have hgj : l[j']? = some l[j'] := List.getElem?_eq_getElem hjn
        refine numberAt4 hr hu hg.2.2 hgj (go _ (fun _ => ⟨by omega, by omega, by rw [s1]; exact ⟨by omega, by omega⟩, in8 ?_⟩) (fun z => absurd z hj1))
        rw [s1, if_pos (by omega)]
        have s2' := s2 j' _ hgj
        have ei : (6 : Int) * (i' : Int) + (j' : Int) = ((6 * i' + j' : Nat) : Int) := rfl
        rw [ei, s2']
        exact ⟨fun z => absurd z (by omega), fun _ => ⟨⟨by omega, by omega⟩, ⟨by omega, by omega⟩, by omega, by omega, hK _⟩⟩
    · rw [if_neg (by omega)]
      exact ⟨fun z => absurd rfl z, fun _ => hK _⟩
/-- registers that hold more than 0 -/
def rcn (f : Int → Int) : Nat → Nat
  | 0 => 0
  | n + 1 => rcn f n + (if f n = 0 then 0 else 1)
theorem rcn_le (f : Int → Int) : ∀ n, rcn f n ≤ n := by
  intro n
  induction n with
  | zero => exact Nat.le_refl _
  | succ n ih => rw [rcn]; split <;> omega
theorem held7 {Q : Int → Prop} {sa : Int → Int} (h : Q (rcn sa 8 : Nat)) : wp_X7_registersHeld Q sa := by
  have loop : ∀ (c i : Nat), i + c = 8 → wp_X7_registersHeld_4 Q sa (c + 1) (rcn sa i : Nat) i := by
    intro c
    induction c with
    | zero =>
      intro i hi
      have e : i = 8 := by omega
      subst e
      rw [wp_X7_registersHeld_4]
      exact ⟨fun _ => h, fun z => absurd z (by omega)⟩
    | succ c ih =>
      intro i hi
      have hn := ih (i + 1) (by omega)
      have hle := rcn_le sa i
      rw [wp_X7_registersHeld_4]
      unfold wp_X7_registersHeld_25
      refine ⟨fun z => absurd z (by omega), fun _ => ⟨by omega, by omega, fun z => ⟨⟨by omega, by omega⟩, ?_⟩, fun z => ⟨⟨by omega, by omega⟩, ⟨by omega, by omega⟩, ?_⟩⟩⟩
      · rw [rcn, if_pos z] at hn; exact hn
      · rw [rcn, if_neg z] at hn; exact hn
  exact ⟨_, loop 8 0 (by omega)⟩
def lnn (D : List (List Nat)) (i : Nat) : Nat := ((D.take i).map List.length).sum
theorem lnn_s {D : List (List Nat)} {i : Nat} {l : List Nat} (h : D[i]? = some l) : lnn D (i + 1) = lnn D i + l.length := by
  unfold lnn
  rw [List.take_add_one, h, List.map_append, List.sum_append]
  simp
theorem lnn_le {D : List (List Nat)} {k : Nat} (h : DD D k) : ∀ i, i ≤ D.length → lnn D i ≤ 6 * i := by
  intro i
  induction i with
  | zero => intro _; simp [lnn]
  | succ i ih =>
    intro hi
    obtain ⟨l, hl, _, _, _, h6⟩ := DD_get h (show i < D.length by omega)
    have := ih (by omega)
    rw [lnn_s hl]
    omega
theorem countShares1 {Q : Int → Prop} {D : List (List Nat)} {k : Nat} {rows : Int → Int} (hD : DD D k) (hrow : ∀ (i : Nat) (l : List Nat), D[i]? = some l → isRow (rows i) l) (h : Q (lnn D D.length : Nat)) : wp_X1_countShares Q rows (D.length : Nat) := by
  have hDl := hD.1
  have loop : ∀ (c i : Nat), i + c = D.length → wp_X1_countShares_4 Q rows (D.length : Nat) (c + 1) (lnn D i : Nat) i := by
    intro c
    induction c with
    | zero =>
      intro i hi
      have e : i = D.length := by omega
      rw [wp_X1_countShares_4, e]
      exact ⟨fun _ => h, fun z => absurd z (by omega)⟩
    | succ c ih =>
      intro i hi
      obtain ⟨l, hl, _, hg, hu, h6⟩ := DD_get hD (show i < D.length by omega)
      have hn := ih (i + 1) (by omega)
      have hb := lnn_le hD i (by omega)
      rw [lnn_s hl] at hn
      rw [wp_X1_countShares_4]
      refine ⟨fun z => absurd z (by omega), fun _ => at1 (by omega) (bitCount4 (hrow i l hl) hu hg.2.2 ⟨⟨by omega, by omega⟩, fun x hx => ⟨⟨by omega, by omega⟩, ?_⟩⟩)⟩
      rw [hx]
      exact hn
  exact ⟨_, loop D.length 0 (by omega)⟩
theorem count8 {Q : Int → Prop} {sa mu : Int → Int} (hr : ∀ r : Int, 0 ≤ r → r < 8 → (sa r = 0 ↔ mu r ≤ 0)) {D : List (List Nat)} {k : Nat} {ma sh st : Int → Int} {fo ws w : Int} (hf : (fo = -1 ∧ D = []) ∨ (fo = (D.length : Nat) ∧ DD D k ∧ Stor D ma sh st))
    (h0 : w = 0 → Q (rcn sa 8 : Nat)) (h1 : w = 1 → Q ws) (h2 : w = 2 → Q (D.length : Nat)) (h3 : w = 3 → Q (lnn D D.length : Nat)) (h4 : w < 0 ∨ 3 < w → Q (-1)) : wp_X8_count Q mu fo ma ws w := by
  have inner : ∃ n0, wp_X8_count_38 Q mu fo ma ws n0 w (rcn sa 8 : Nat) 0 0 := by
    have fin : ∀ (s : Nat) (c : Nat) (i : Int), fo ≤ i → (w = 3 → Q s) → wp_X8_count_38 Q mu fo ma ws (c + 1) w (rcn sa 8 : Nat) s i := by
      intro s c i hi h3'
      rw [wp_X8_count_38]
      unfold wp_X8_count_118
      refine ⟨fun _ => ⟨h4, h0, h1, fun e => ⟨fun z => ?_, fun z => ?_⟩, h3'⟩, fun z => absurd hi z⟩
      · rcases hf with ⟨u1, u2⟩ | ⟨u1, _⟩
        · omega
        · rw [u1]; exact h2 e
      · rcases hf with ⟨u1, u2⟩ | ⟨u1, _⟩
        · have := h2 e; rw [u2] at this; exact this
        · omega
    rcases hf with ⟨u1, u2⟩ | ⟨u1, hD, hS⟩
    · refine ⟨1, fin 0 0 0 (by omega) (fun e => ?_)⟩
      have := h3 e
      rw [u2] at this
      exact this
    · have hDl := hD.1
      have loop : ∀ (c i : Nat), i + c = D.length → wp_X8_count_38 Q mu fo ma ws (c + 1) w (rcn sa 8 : Nat) (lnn D i : Nat) i := by
        intro c
        induction c with
        | zero =>
          intro i hi
          have e : i = D.length := by omega
          refine fin _ _ _ (by omega) (fun e3 => ?_)
          rw [e]
          exact h3 e3
        | succ c ih =>
          intro i hi
          obtain ⟨l, hl, _, hg, hu, h6⟩ := DD_get hD (show i < D.length by omega)
          obtain ⟨s1, _, _⟩ := hS i l hl
          have hn := ih (i + 1) (by omega)
          have hb := lnn_le hD i (by omega)
          rw [lnn_s hl] at hn
          rw [wp_X8_count_38, s1]
          refine ⟨fun z => absurd z (by omega), fun _ => ⟨by omega, by omega, ⟨by omega, by omega⟩, fun x hx => ⟨⟨by omega, by omega⟩, ?_⟩⟩⟩
          rw [hx]
          exact hn
      exact ⟨_, loop D.length 0 (by omega)⟩
  have outer : ∀ (c i : Nat), i + c = 8 → wp_X8_count_4 Q mu fo ma ws (c + 1) w (rcn sa i : Nat) i := by
    intro c
    induction c with
    | zero =>
      intro i hi
      have e : i = 8 := by omega
      subst e
      rw [wp_X8_count_4]
      exact ⟨fun _ => inner, fun z => absurd z (by omega)⟩
    | succ c ih =>
      intro i hi
      have hn := ih (i + 1) (by omega)
      have hle := rcn_le sa i
      have hri := hr i (by omega) (by omega)
      rw [wp_X8_count_4]
      unfold wp_X8_count_25
      refine ⟨fun z => absurd z (by omega), fun _ => ⟨by omega, by omega, fun z => ⟨⟨by omega, by omega⟩, fun x hx => ⟨⟨by omega, by omega⟩, ?_⟩⟩, fun z => ⟨⟨by omega, by omega⟩, fun x hx => ⟨⟨by omega, by omega⟩, ?_⟩⟩⟩⟩
      · rw [rcn, if_pos (hri.mpr z)] at hn; rw [hx]; exact hn
      · rw [rcn, if_neg (fun y => z (hri.mp y))] at hn; rw [hx]; exact hn
  exact ⟨_, outer 8 0 (by omega)⟩
theorem count_ok {sa sb mu md : Int → Int} (hI : RG sa sb mu md) {rows di re : Int → Int} {th sz mo so lo en fo : Int} {ma sh st : Int → Int} (hF : FI rows di re th sz mo so lo en fo ma sh st) {wl mw : Int → Int} {ws ww mn : Int} (hW : WI wl ws ww mn mw) (w : Int) {K : Int → Int → Prop} (hK : ∀ v, K v v) :
    wp_X7_count (fun v => wp_X8_count (fun v2 => K v v2) mu fo ma mn w) sa rows sz ws w := by
  unfold wp_X7_count wp_X6_size wp_X1_size
  have hr : ∀ r : Int, 0 ≤ r → r < 8 → (sa r = 0 ↔ mu r ≤ 0) := by
    intro r h0 h8
    obtain ⟨a1, _, a3, _⟩ := hI r h0 h8
    omega
  have hws := hW.1
  obtain ⟨D, k, hf, hsz, hcs⟩ : ∃ (D : List (List Nat)) (k : Nat), ((fo = -1 ∧ D = []) ∨ (fo = (D.length : Nat) ∧ DD D k ∧ Stor D ma sh st)) ∧ sz = (D.length : Nat) ∧ ∀ Q : Int → Prop, Q (lnn D D.length : Nat) → wp_X1_countShares Q rows sz := by
    rcases hF with ⟨rfl, rfl, rfl⟩ | ⟨rfl, D, k, hD, rfl, rfl, rfl, hrow, hS, -⟩
    · refine ⟨[], 1, Or.inl ⟨rfl, rfl⟩, rfl, fun Q hQ => ⟨1, ?_⟩⟩
      rw [wp_X1_countShares_4]
      exact ⟨fun _ => hQ, fun z => absurd z (by omega)⟩
    · exact ⟨D, k, Or.inr ⟨rfl, hD, hS⟩, rfl, fun Q hQ => countShares1 hD hrow hQ⟩
  refine ⟨fun e => count8 hr hf (fun z => by omega) (fun z => by omega) (fun z => by omega) (fun z => by omega) (fun _ => hK _), fun e => held7 (count8 hr hf (fun _ => hK _) (fun z => by omega) (fun z => by omega) (fun z => by omega) (fun z => by omega)),
    fun e => count8 hr hf (fun z => by omega) (fun _ => ?_) (fun z => by omega) (fun z => by omega) (fun z => by omega), fun e => count8 hr hf (fun z => by omega) (fun z => by omega) (fun _ => ?_) (fun z => by omega) (fun z => by omega), fun e => hcs _ (count8 hr hf (fun z => by omega) (fun z => by omega) (fun z => by omega) (fun _ => hK _) (fun z => by omega))⟩
  · rw [← hws]; exact hK _
  · rw [← hsz]; exact hK _
