/-! ===== barred numbers; the common number below; weighing ===== -/
theorem land_pow {x : Int} {k : Nat} (hk : k < 64) : land64 x (shl64 1 (k : Int)) = 0 ↔ bt x k = false := by
  constructor
  · intro h
    have := bt_land x (shl64 1 (k : Int)) k
    rw [h, bt_0, bt_pow hk, decide_eq_true rfl, Bool.and_true] at this
    exact this.symm
  · intro h
    refine bt_ext (r_land64 _ _) ⟨by omega, by omega⟩ (fun i _ => ?_)
    rw [bt_land, bt_0, bt_pow hk]
    by_cases e : i = k
    · subst e; rw [h, Bool.false_and]
    · rw [decide_eq_false e, Bool.and_false]
def brd (ba : Int) (v : Nat) : Bool := bt ba (62 - v)
theorem isBarred2 {Q : Int → Prop} {ba : Int} {v : Nat} (h1 : 2 ≤ v) (h2 : v ≤ 60) (h : Q (if brd ba v = true then 1 else 0)) : wp_X2_isBarred Q ba v := by
  unfold wp_X2_isBarred wp_X2_isBarred_19
  refine bit4 h1 h2 ?_
  rw [land_pow (by omega)]
  unfold brd at h
  refine ⟨fun w => ⟨Or.inl rfl, ?_⟩, fun w => ⟨Or.inr rfl, ?_⟩⟩
  · rw [w] at h; exact h
  · have : bt ba (62 - v) = true := by simpa using w
    rw [this] at h; exact h
/-- the numbers 2 to v that aren't barred -/
def unb (b : Nat → Bool) : Nat → List Nat
  | 0 => []
  | v + 1 => unb b v ++ (if 2 ≤ v + 1 ∧ b (v + 1) = false then [v + 1] else [])
theorem rl_snoc {n : Nat} : ∀ m, m ≤ n → rl (n + 1) (m + 1) = rl n m ++ [n + 1] := by
  intro m
  induction m with
  | zero => intro _; rfl
  | succ m ih =>
    intro h
    rw [rl, ih (by omega), rl]
    have : n + 1 - (m + 1) = n - m := by omega
    rw [this]; rfl
theorem unb_rl {b : Nat → Bool} : ∀ n, 1 ≤ n → unb b n = (rl n (n - 1)).filter (fun v => !b v) := by
  intro n hn
  induction n with
  | zero => omega
  | succ n ih =>
    rcases Nat.eq_zero_or_pos n with z | z
    · subst z
      rw [unb, if_neg (by omega)]; rfl
    · have e : n + 1 - 1 = (n - 1) + 1 := by omega
      rw [unb, ih z, e, rl_snoc (n - 1) (by omega), List.filter_append]
      congr 1
      by_cases hb : b (n + 1) = false
      · rw [if_pos ⟨by omega, hb⟩]; simp [hb]
      · rw [if_neg (fun w => hb w.2)]
        have : b (n + 1) = true := by simpa using hb
        simp [this]
theorem unb_ok {b : Nat → Bool} : ∀ n, (unb b n).Pairwise (fun x y => x < y) ∧ ∀ v, v ∈ unb b n ↔ 2 ≤ v ∧ v ≤ n ∧ b v = false := by
  intro n
  induction n with
  | zero => exact ⟨List.Pairwise.nil, fun v => ⟨fun h => by simp [unb] at h, fun h => by omega⟩⟩
  | succ n ih =>
    rw [unb]
    obtain ⟨i1, i2⟩ := ih
    by_cases h : 2 ≤ n + 1 ∧ b (n + 1) = false
    · rw [if_pos h]
      refine ⟨List.pairwise_append.mpr ⟨i1, List.pairwise_singleton _ _, fun x hx y hy => ?_⟩, fun v => ?_⟩
      · have := (i2 x).mp hx
        have := List.mem_singleton.mp hy
        omega
      · rw [List.mem_append, List.mem_singleton, i2]
        constructor
        · rintro (w | w)
          · exact ⟨w.1, by omega, w.2.2⟩
          · subst w; exact ⟨h.1, Nat.le_refl _, h.2⟩
        · rintro ⟨a, c, d⟩
          by_cases e : v = n + 1
          · exact Or.inr e
          · exact Or.inl ⟨a, by omega, d⟩
    · rw [if_neg h, List.append_nil]
      refine ⟨i1, fun v => ?_⟩
      rw [i2]
      constructor
      · rintro w; exact ⟨w.1, by omega, w.2.2⟩
      · rintro ⟨a, c, d⟩
        by_cases e : v = n + 1
        · subst e; exact absurd ⟨a, d⟩ h
        · exact ⟨a, by omega, d⟩
theorem unb_len {b : Nat → Bool} : ∀ n, (unb b n).length ≤ n - 1 := by
  intro n
  induction n with
  | zero => simp [unb]
  | succ n ih =>
    rw [unb, List.length_append]
    split
    · rw [List.length_singleton]; omega
    · rw [List.length_nil]; omega
/-- the common number below -/
def lcL : List Nat → Nat
  | [] => 1
  | v :: r => lcL r * (v / Nat.gcd (lcL r) v)
def lcU (b : Nat → Bool) : Nat → Nat
  | 0 => 1
  | v + 1 => if 2 ≤ v + 1 ∧ b (v + 1) = false then lcU b v * ((v + 1) / Nat.gcd (lcU b v) (v + 1)) else lcU b v
theorem lc_step {x v : Nat} (hx : 1 ≤ x) (hv : 1 ≤ v) : 1 ≤ x * (v / Nat.gcd x v) ∧ x ∣ x * (v / Nat.gcd x v) ∧ v ∣ x * (v / Nat.gcd x v) ∧ ∀ K, x ∣ K → v ∣ K → x * (v / Nat.gcd x v) ∣ K := by
  have hg : 0 < Nat.gcd x v := Nat.gcd_pos_of_pos_left _ hx
  have e : x * (v / Nat.gcd x v) = Nat.lcm x v := by
    rw [← Nat.mul_div_assoc _ (Nat.gcd_dvd_right x v)]; rfl
  rw [e]
  exact ⟨Nat.lcm_pos hx hv, Nat.dvd_lcm_left x v, Nat.dvd_lcm_right x v, fun K h1 h2 => Nat.lcm_dvd h1 h2⟩
theorem lcU_ok {b : Nat → Bool} : ∀ n, 1 ≤ lcU b n ∧ (∀ v, 2 ≤ v → v ≤ n → b v = false → v ∣ lcU b n) ∧ ∀ K, (∀ v, 2 ≤ v → v ≤ n → b v = false → v ∣ K) → lcU b n ∣ K := by
  intro n
  induction n with
  | zero => exact ⟨Nat.le_refl _, fun v a c => by omega, fun K _ => Nat.one_dvd K⟩
  | succ n ih =>
    obtain ⟨i1, i2, i3⟩ := ih
    rw [lcU]
    by_cases h : 2 ≤ n + 1 ∧ b (n + 1) = false
    · rw [if_pos h]
      obtain ⟨s1, s2, s3, s4⟩ := lc_step (x := lcU b n) (v := n + 1) i1 (by omega)
      refine ⟨s1, fun v a c d => ?_, fun K hK => s4 K (i3 K (fun v a c d => hK v a (by omega) d)) (hK (n + 1) h.1 (Nat.le_refl _) h.2)⟩
      by_cases e : v = n + 1
      · rw [e]; exact s3
      · exact Nat.dvd_trans (i2 v a (by omega) d) s2
    · rw [if_neg h]
      refine ⟨i1, fun v a c d => ?_, fun K hK => i3 K (fun v a c d => hK v a (by omega) d)⟩
      by_cases e : v = n + 1
      · subst e; exact absurd ⟨a, d⟩ h
      · exact i2 v a (by omega) d
theorem fpt7 {Q : Int → Int → Prop} {ba : Int} {lm : Nat} (hlm : lm ≤ 60) (hb : ∀ v, v ≤ lm → lcU (brd ba) v ≤ 10000000000000000) (h : Q 1 (lcU (brd ba) lm : Nat)) :
    ∀ (k v : Nat), v + k = lm → 1 ≤ v → wp_X2_findParts_7 Q ba lm (k + 1) (lcU (brd ba) v : Nat) ((v + 1 : Nat) : Int) := by
  intro k
  induction k with
  | zero =>
    intro v hv _
    have e : v = lm := by omega
    subst e
    rw [wp_X2_findParts_7]
    exact ⟨fun _ => h, fun z => absurd z (by omega)⟩
  | succ k ih =>
    intro v hv hv1
    rw [wp_X2_findParts_7]
    unfold wp_X2_findParts_44
    have e1 : ((v + 1 : Nat) : Int) + 1 = ((v + 1 + 1 : Nat) : Int) := rfl
    rw [e1]
    have nx := ih (v + 1) (by omega) (by omega)
    have hb1 := hb (v + 1) (by omega)
    have hb0 := hb v (by omega)
    have hp := (lcU_ok (b := brd ba) v).1
    refine ⟨fun z => absurd z (by omega), fun _ => isBarred2 (by omega) (by omega) ?_⟩
    by_cases hbr : brd ba (v + 1) = true
    · rw [if_pos hbr]
      rw [lcU, if_neg (fun w => by rw [hbr] at w; exact absurd w.2 (by decide))] at nx
      exact ⟨fun _ => ⟨fun _ => ⟨⟨by omega, by omega⟩, nx⟩, fun z => absurd z (by omega)⟩, fun z => absurd z (by omega)⟩
    · have hbf : brd ba (v + 1) = false := by simpa using hbr
      rw [if_neg hbr]
      rw [lcU, if_pos ⟨by omega, hbf⟩] at nx hb1
      refine ⟨fun z => absurd rfl z, fun _ => cd7' (by omega) (by omega) ?_⟩
      have hg : 0 < Nat.gcd (lcU (brd ba) v) (v + 1) := Nat.gcd_pos_of_pos_right _ (by omega)
      rw [nm_tdiv]
      have c1 : ((lcU (brd ba) v : Nat) : Int) * (((v + 1) / Nat.gcd (lcU (brd ba) v) (v + 1) : Nat) : Int) = ((lcU (brd ba) v * ((v + 1) / Nat.gcd (lcU (brd ba) v) (v + 1)) : Nat) : Int) := rfl
      rw [c1]
      generalize lcU (brd ba) v * ((v + 1) / Nat.gcd (lcU (brd ba) v) (v + 1)) = Z at *
      refine ⟨by omega, ⟨by omega, by omega⟩, fun x hx => ?_⟩
      rw [hx]
      exact ⟨fun _ => ⟨⟨by omega, by omega⟩, nx⟩, fun z => absurd z (by omega)⟩
theorem findParts2 {Q : Int → Int → Prop} {ba : Int} {lm : Nat} {pt : Int} (hlm : lm ≤ 60) (hlm2 : 2 ≤ lm) (hb : ∀ v, v ≤ lm → lcU (brd ba) v ≤ 10000000000000000) (h : Q 1 (lcU (brd ba) lm : Nat)) : wp_X2_findParts Q ba lm pt := by
  refine ⟨lm - 1 + 1, ?_⟩
  have := fpt7 (Q := Q) (ba := ba) hlm hb h (lm - 1) 1 (by omega) (by omega)
  exact this
theorem weigh2 {Q : (Int → Int) → (Int → Int) → (Int → Int) → (Int → Int) → (Int → Int) → Int → Prop} {ba : Int} {lm pt : Nat} {nu we wa gr pf : Int → Int} (hlm : lm ≤ 60) (hlm2 : 2 ≤ lm) (hpt : 1 ≤ pt) (hpt2 : pt ≤ 10000000000000000) (hd : ∀ v, 2 ≤ v → v ≤ lm → brd ba v = false → v ∣ pt) (hwa : wa 0 = 0)
    (h : ∀ nu we wa gr pf, wa 0 = 0 → PD (unb (brd ba) lm) pt lm nu we wa gr pf → Q nu we wa gr pf ((unb (brd ba) lm).length : Nat)) : wp_X2_weigh Q nu we wa gr pf ba lm 0 pt := by
  have hlenb := fun v => unb_len (b := brd ba) v
  have hsum : ∀ l : List Nat, l.length ≤ 60 → (l.map (fun v => pt / v)).sum ≤ 600000000000000000 := by
    intro l hl
    have h2 := sum_le_mul (c := fun v => pt / v) (m := 10000000000000000) l (fun x _ => Nat.le_trans (Nat.div_le_self _ _) hpt2)
    have h4 : 10000000000000000 * l.length ≤ 10000000000000000 * 60 := Nat.mul_le_mul_left _ hl
    omega
  -- the grains, from the end
  have grains : ∀ (c : Nat) (nu we wa gr pf : Int → Int), wa 0 = 0 → c ≤ (unb (brd ba) lm).length → (∀ i : Nat, c ≤ i → i < (unb (brd ba) lm).length → ∃ g : Nat, gr i = g ∧ 0 < g ∧ ∀ v ∈ (unb (brd ba) lm).drop i, g ∣ pt / v) → (c = (unb (brd ba) lm).length → gr c = 0) → rep we ((unb (brd ba) lm).map (fun v => pt / v)) →
      ((∀ gr' : Int → Int, (∀ i : Nat, i < (unb (brd ba) lm).length → ∃ g : Nat, gr' i = g ∧ 0 < g ∧ ∀ v ∈ (unb (brd ba) lm).drop i, g ∣ pt / v) → Q nu we wa gr' pf ((unb (brd ba) lm).length : Nat))) → wp_X2_weigh_117 Q ba lm pt (c + 1) nu we wa gr pf ((unb (brd ba) lm).length : Nat) ((c : Int) - 1) := by
    intro c
    induction c with
    | zero =>
      intro nu we wa gr pf h0 hc hg _ _ hQ
      rw [wp_X2_weigh_117]
      exact ⟨fun _ => hQ gr (fun i hi => hg i (by omega) hi), fun z => absurd z (by omega)⟩
    | succ c ih =>
      intro nu we wa gr pf h0 hc hg hgl hwe hQ
      have hl59 := hlenb lm
      rw [wp_X2_weigh_117]
      have e0 : ((c + 1 : Nat) : Int) - 1 = (c : Int) := by omega
      have e1 : (c : Int) + 1 = ((c + 1 : Nat) : Int) := rfl
      have e9 : (c : Int) + (-1) = (c : Int) - 1 := rfl
      rw [e0, e1, e9]
      have hcl : c < (unb (brd ba) lm).length := by omega
      have hget : (unb (brd ba) lm)[c]? = some (unb (brd ba) lm)[c] := List.getElem?_eq_getElem hcl
      have hmem := ((unb_ok (b := brd ba) lm).2 _).mp (List.getElem_mem hcl)
      have hdrop : (unb (brd ba) lm).drop c = (unb (brd ba) lm)[c] :: (unb (brd ba) lm).drop (c + 1) := List.drop_eq_getElem_cons hcl
      have hw : we c = ((pt / (unb (brd ba) lm)[c] : Nat) : Int) := hwe c _ (by rw [List.getElem?_map, hget]; rfl)
      generalize (unb (brd ba) lm)[c] = X at *
      have hX := hd X hmem.1 hmem.2.1 hmem.2.2
      have hXp : 0 < pt / X := Nat.div_pos (Nat.le_of_dvd hpt hX) (by omega)
      have hXb : pt / X ≤ pt := Nat.div_le_self _ _
      -- the grain so far
      have hG : ∃ G : Nat, gr ((c + 1 : Nat) : Int) = G ∧ ∀ v ∈ (unb (brd ba) lm).drop (c + 1), G ∣ pt / v := by
        rcases Nat.lt_or_ge (c + 1) (unb (brd ba) lm).length with u | u
        · obtain ⟨g, a1, a2, a3⟩ := hg (c + 1) (Nat.le_refl _) u
          exact ⟨g, a1, a3⟩
        · refine ⟨0, by rw [hgl (by omega)]; rfl, fun v hv => ?_⟩
          rw [List.drop_eq_nil_of_le u] at hv
          simp at hv
      obtain ⟨G, hG1, hG2⟩ := hG
      rw [hG1, hw]
      generalize hcc : pt / X = C at *
      refine ⟨fun z => absurd z (by omega), fun _ => ⟨⟨by omega, by omega⟩, by omega, by omega, by omega, by omega, cd7' (by omega) hXp ⟨by omega, by omega, ⟨by omega, by omega⟩, ih _ _ _ _ _ h0 (by omega) (fun i hi1 hi2 => ?_) (fun e => by omega) hwe (fun gr' hgr' => hQ gr' hgr')⟩⟩⟩
      by_cases ei : i = c
      · subst ei
        refine ⟨Nat.gcd G C, by rw [ups_s], Nat.gcd_pos_of_pos_right _ hXp, fun v hv => ?_⟩
        rw [hdrop] at hv
        rcases List.mem_cons.mp hv with w | w
        · rw [w, hcc]; exact Nat.gcd_dvd_right _ _
        · exact Nat.dvd_trans (Nat.gcd_dvd_left _ _) (hG2 v w)
      · rw [ups_n (by omega)]
        exact hg i (by omega) hi2
  -- the numbers
  have loop : ∀ (k v : Nat) (nu we wa gr pf : Int → Int), v + k = lm → 1 ≤ v → wa 0 = 0 → rep nu (unb (brd ba) v) → rep we ((unb (brd ba) v).map (fun x => pt / x)) → (∀ i : Nat, i ≤ (unb (brd ba) v).length → wa i = ((((unb (brd ba) v).take i).map (fun x => pt / x)).sum : Nat)) → (∀ x : Nat, 2 ≤ x → x ≤ v → pf x = (((unb (brd ba) v).filter (fun y => decide (y < x))).length : Nat)) → wp_X2_weigh_2 Q ba lm pt (k + 1) nu we wa gr pf ((unb (brd ba) v).length : Nat) ((v + 1 : Nat) : Int) := by
    intro k
    induction k with
    | zero =>
      intro v nu we wa gr pf hv hv1 h0 a1 a2 a3 a4
      have e : v = lm := by omega
      subst e
      have hl59 := hlenb v
      rw [wp_X2_weigh_2]
      refine ⟨fun _ => ⟨by omega, by omega, ⟨by omega, by omega⟩, fun x hx => ⟨(unb (brd ba) v).length + 1, ?_⟩⟩, fun z => absurd z (by omega)⟩
      rw [hx]
      refine grains (unb (brd ba) v).length nu we wa _ pf h0 (Nat.le_refl _) (fun i i1 i2 => by omega) (fun _ => by rw [ups_s]) a2 (fun gr' hgr' => h _ _ _ _ _ h0 ⟨(unb_ok v).1, fun x hx => ?_, hlm, hpt, hpt2, a1, a2, a3, hgr', a4⟩)
      have := ((unb_ok (b := brd ba) v).2 x).mp hx
      exact ⟨this.1, this.2.1, hd x this.1 this.2.1 this.2.2⟩
    | succ k ih =>
      intro v nu we wa gr pf hv hv1 h0 a1 a2 a3 a4
      have hl59 := hlenb v
      rw [wp_X2_weigh_2]
      unfold wp_X2_weigh_94
      have e1 : ((v + 1 : Nat) : Int) + 1 = ((v + 1 + 1 : Nat) : Int) := rfl
      rw [e1]
      have nx := ih (v + 1)
      refine ⟨fun z => absurd z (by omega), fun _ => ⟨by omega, by omega, isBarred2 (by omega) (by omega) ?_⟩⟩
      -- the first place of numbers from x on, for x at most v + 1
      have hpf : ∀ (X : List Nat), (∀ y ∈ X, v < y) → ∀ x : Nat, 2 ≤ x → x ≤ v + 1 → (ups pf ((v + 1 : Nat) : Int) ((unb (brd ba) v).length : Nat)) x = (((unb (brd ba) v ++ X).filter (fun y => decide (y < x))).length : Nat) := by
        intro X hX x hx1 hx2
        have eX : X.filter (fun y => decide (y < x)) = [] := by
          rw [List.filter_eq_nil_iff]
          intro y hy hd
          have := hX y hy
          have hd2 : y < x := by simpa using hd
          omega
        rw [List.filter_append, eX, List.append_nil]
        by_cases e : x = v + 1
        · subst e
          rw [ups_s]
          have : (unb (brd ba) v).filter (fun y => decide (y < v + 1)) = unb (brd ba) v := by
            rw [List.filter_eq_self]
            intro y hy
            have := ((unb_ok (b := brd ba) v).2 y).mp hy
            simp; omega
          rw [this]
        · rw [ups_n (by omega)]
          exact a4 x hx1 (by omega)
      by_cases hbr : brd ba (v + 1) = true
      · rw [if_pos hbr]
        have eu : unb (brd ba) (v + 1) = unb (brd ba) v := by rw [unb, if_neg (fun w => by rw [hbr] at w; exact absurd w.2 (by decide)), List.append_nil]
        rw [eu] at nx
        refine ⟨fun _ => ⟨⟨by omega, by omega⟩, nx nu we wa gr _ (by omega) (by omega) h0 a1 a2 a3 (fun x hx1 hx2 => ?_)⟩, fun z => absurd z (by omega)⟩
        have := hpf [] (by simp) x hx1 hx2
        rw [List.append_nil] at this
        exact this
      · have hbf : brd ba (v + 1) = false := by simpa using hbr
        have eu : unb (brd ba) (v + 1) = unb (brd ba) v ++ [v + 1] := by rw [unb, if_pos ⟨by omega, hbf⟩]
        rw [if_neg hbr]
        rw [eu] at nx
        have hX := hd (v + 1) (by omega) (by omega) hbf
        have hXb : pt / (v + 1) ≤ pt := Nat.div_le_self _ _
        have hs0 := hsum (unb (brd ba) v) (by omega)
        have hwal := a3 (unb (brd ba) v).length (Nat.le_refl _)
        rw [List.take_length] at hwal
        rw [nm_tdiv, hwal]
        have nr1 := rep_add (s := v + 1) a1
        have nr2 := rep_add (s := pt / (v + 1)) a2
        rw [List.length_map] at nr2
        generalize hC : pt / (v + 1) = C at *
        generalize hS : ((unb (brd ba) v).map (fun x => pt / x)).sum = S at *
        refine ⟨fun z => absurd rfl z, fun _ => ⟨by omega, by omega, by omega, fun x53 h53 => ?_⟩⟩
        rw [h53]
        refine ⟨by omega, by omega, ⟨by omega, by omega⟩, by omega, by omega, by omega, by omega, ⟨by rw [ups_s]; omega, by rw [ups_s]; omega⟩, fun x83 h83 => ⟨by omega, by omega, ⟨by omega, by omega⟩, fun x91 h91 => ⟨⟨by omega, by omega⟩, ?_⟩⟩⟩
        rw [ups_s] at h83
        have e91 : x91 = (((unb (brd ba) v ++ [v + 1]).length : Nat) : Int) := by rw [List.length_append, List.length_singleton]; omega
        rw [e91]
        refine nx _ _ _ gr _ (by omega) (by omega) (by rw [ups_n (by omega)]; exact h0) nr1 (by rw [List.map_append, List.map_singleton, hC]; exact nr2) (fun i hi => ?_) (hpf [v + 1] (fun y hy => by have := List.mem_singleton.mp hy; omega))
        rw [List.length_append, List.length_singleton] at hi
        by_cases ei : i = (unb (brd ba) v).length + 1
        · have ec : ((unb (brd ba) v).length : Int) + 1 = ((i : Nat) : Int) := by omega
          rw [ec, ups_s, h83, List.take_of_length_le (by rw [List.length_append, List.length_singleton]; omega), List.map_append, List.sum_append, List.map_singleton, List.sum_singleton, hS, hC]
          rfl
        · rw [ups_n (by omega), a3 i (by omega), List.take_append_of_le_length (by omega)]
  refine ⟨lm - 1 + 1, ?_⟩
  have e1 : unb (brd ba) 1 = [] := by rw [unb, unb, if_neg (by omega)]; rfl
  have := loop (lm - 1) 1 nu we wa gr pf (by omega) (by omega) hwa (by rw [e1]; exact rep_nil _) (by rw [e1]; exact rep_nil _) (fun i hi => by
    rw [e1] at hi ⊢
    have hi0 : i = 0 := by simpa using hi
    subst hi0
    exact hwa) (fun x hx1 hx2 => by omega)
  rw [e1] at this
  exact this
