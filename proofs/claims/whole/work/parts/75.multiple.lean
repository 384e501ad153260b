/-! ===== multiple and divisor, both sides ===== -/
theorem mfc_s {p q f m : Nat} (h : ¬ 200 < m) : mfc p q (f + 1) m = if 5000 < q * m then -5 else if rch (dvL (q * m) (p * m)) (p * m) = true then (m : Int) else mfc p q f (m + 1) := by rw [mfc, if_neg h]
theorem dvL_b {v n : Nat} (hv : v ≤ 5000) (h1 : 1 ≤ v) : ∀ d ∈ dvL v n, 1 ≤ d ∧ d ≤ 5000 := by
  intro d hd
  obtain ⟨a, b, c⟩ := ((dvL_ok v n).2.2 d).mp hd
  have := Nat.le_of_dvd h1 (Nat.dvd_of_mod_eq_zero c)
  omega
theorem ff2 {Q : Int → (Int → Int) → (Int → Int) → (Int → Int) → (Int → Int) → (Int → Int) → Int → Int → Prop} {p q : Nat} (hp : 1 ≤ p) (hpq : p < q) (hq : q ≤ 1000000) {M : Int}
    (h : ∀ (dv re fe ta co : Int → Int) (ds sz : Int), (∀ m : Nat, M = m → sz = ((chs (dvL (q * m) (p * m)) (p * m)).length : Nat) ∧ rep co (chs (dvL (q * m) (p * m)) (p * m))) → Q M dv re fe ta co ds sz) :
    ∀ (f m : Nat) (dv re fe ta co : Int → Int) (ds : Int), m + f = 201 → 1 ≤ m → mfc p q (f + 1) m = M → wp_X0_findFactor_2 Q (f + 1) dv re fe ta co ds 0 p q m := by
  intro f
  induction f with
  | zero =>
    intro m dv re fe ta co ds hm hm1 hM
    rw [mfc, if_pos (by omega)] at hM
    rw [wp_X0_findFactor_2]
    subst hM
    exact ⟨fun _ => h _ _ _ _ _ _ _ (fun m e => by omega), fun z => absurd z (by omega)⟩
  | succ f ih =>
    intro m dv re fe ta co ds hm hm1 hM
    rw [mfc_s (by omega)] at hM
    rw [wp_X0_findFactor_2]
    have eG : Int.tdiv 5000 (m : Int) = ((5000 / m : Nat) : Int) := nm_tdiv 5000 m
    rw [eG]
    have hdiv : q ≤ 5000 / m ↔ q * m ≤ 5000 := Nat.le_div_iff_mul_le hm1
    have c1 : (q : Int) * (m : Int) = ((q * m : Nat) : Int) := rfl
    have c2 : (p : Int) * (m : Int) = ((p * m : Nat) : Int) := rfl
    have c3 : (m : Int) + 1 = ((m + 1 : Nat) : Int) := rfl
    rw [c1, c2, c3]
    have hpm : p * m ≤ q * m := Nat.mul_le_mul_right m (by omega)
    have hqm : 1 ≤ q * m := Nat.mul_pos (by omega) hm1
    refine ⟨fun z => absurd z (by omega), fun _ => ⟨by omega, fun z => ?_, fun z => ?_⟩⟩
    · have hle : q * m ≤ 5000 := hdiv.mp (Int.ofNat_le.mp z)
      rw [if_neg (by omega)] at hM
      refine ⟨⟨by omega, by omega⟩, ⟨by omega, by omega⟩, listDivisors0 hqm hle hpm (fun dv' hdv' => ⟨⟨by omega, by omega⟩, canMake0 (by omega) (dvL_48 hqm hle) (dvL_b hle hqm) hdv' (fun re' => ?_)⟩)⟩
      by_cases hr : rch (dvL (q * m) (p * m)) (p * m) = true
      · rw [if_pos hr] at hM ⊢
        have hlt : lst (dvL (q * m) (p * m)) (p * m) < 1000 := by
          have h1 := (rch_lst _ _).1 hr
          have h2 := dvL_48 (v := q * m) (n := p * m) hqm hle
          omega
        refine ⟨fun w => absurd w (by omega), fun _ => ⟨⟨by omega, by omega⟩, choose0 (by omega) (dvL_48 hqm hle) (dvL_b hle hqm) hdv' hlt (fun f' g' c' hc' => ?_)⟩⟩
        subst hM
        refine h _ _ _ _ _ _ _ (fun m' e => ?_)
        have : m' = m := by omega
        subst this
        exact ⟨rfl, hc'⟩
      · rw [if_neg hr] at hM ⊢
        exact ⟨fun _ => ⟨⟨by omega, by omega⟩, ih (m + 1) _ _ _ _ _ _ (by omega) (by omega) hM⟩, fun w => absurd rfl w⟩
    · have hgt : 5000 < q * m := by
        have : ¬ q ≤ 5000 / m := fun w => z (Int.ofNat_le.mpr w)
        rw [hdiv] at this
        omega
      rw [if_pos hgt] at hM
      subst hM
      exact h _ _ _ _ _ _ _ (fun m e => by omega)
def DI (co : Int → Int) (sz ap aq fac : Int) : Prop := ∀ p q : Nat, 1 ≤ p → p < q → q ≤ 1000000 → ap = p → aq = q → fac = mfc p q 201 1 ∧ ∀ m : Nat, mfc p q 201 1 = m → sz = ((chs (dvL (q * m) (p * m)) (p * m)).length : Nat) ∧ rep co (chs (dvL (q * m) (p * m)) (p * m))
theorem DI_mk {co : Int → Int} {sz : Int} {p q : Nat} (h : ∀ m : Nat, mfc p q 201 1 = m → sz = ((chs (dvL (q * m) (p * m)) (p * m)).length : Nat) ∧ rep co (chs (dvL (q * m) (p * m)) (p * m))) : DI co sz p q (mfc p q 201 1) := by
  intro p' q' _ _ _ e1 e2
  have e3 : p' = p := by omega
  have e4 : q' = q := by omega
  subst e3 e4
  exact ⟨rfl, h⟩
theorem factorFor0 {Q : Int → (Int → Int) → (Int → Int) → (Int → Int) → (Int → Int) → (Int → Int) → Int → Int → Int → Int → Int → Prop} {p q : Nat} {dv re fe ta co : Int → Int} {ds sz ap aq fac : Int} (hD : DI co sz ap aq fac) (hp : 1 ≤ p) (hpq : p < q) (hq : q ≤ 1000000)
    (h : ∀ (dv re fe ta co : Int → Int) (ds sz : Int), (∀ m : Nat, mfc p q 201 1 = m → sz = ((chs (dvL (q * m) (p * m)) (p * m)).length : Nat) ∧ rep co (chs (dvL (q * m) (p * m)) (p * m))) → Q (mfc p q 201 1) dv re fe ta co ds sz p q (mfc p q 201 1)) : wp_X0_factorFor Q dv re fe ta co ds sz ap aq fac p q := by
  unfold wp_X0_factorFor wp_X0_factorFor_16 wp_X0_factorFor_41
  have new : wp_X0_findFactor (fun x dv re fe ta co ds sz => Q x dv re fe ta co ds sz p q x) dv re fe ta co ds 0 p q := by
    refine ⟨201, ?_⟩
    exact ff2 (M := mfc p q 201 1) hp hpq hq h 200 1 dv re fe ta co ds (by omega) (by omega) rfl
  refine ⟨fun _ => new, fun e1 => ⟨fun e2 => ?_, fun _ => new⟩⟩
  obtain ⟨h1, h2⟩ := hD p q hp hpq hq e1.symm e2.symm
  rw [← e1, ← e2, h1]
  exact h _ _ _ _ _ _ _ h2
theorem fmu2 {Q : Int → Int → (Int → Int) → (Int → Int) → Prop} {p q : Nat} (hp : 1 ≤ p) (hpq : p < q) (hq : q ≤ 5000) {M : Int}
    (h : ∀ (n : Int) (dv le : Int → Int), (∀ m : Nat, M = m → q * m ≤ 5000 ∧ 1 ≤ m ∧ rch (dvL (q * m) (p * m)) (p * m) = true ∧ n = ((dvL (q * m) (q * m)).length : Nat) ∧ rep dv (dvL (q * m) (q * m)).reverse ∧ LR (dvL (q * m) (q * m)) (p * m) (dvL (q * m) (q * m)).length le) → Q M n dv le) :
    ∀ (f m : Nat) (n : Int) (dv le : Int → Int), m + f = 201 → 1 ≤ m → mfc p q (f + 1) m = M → wp_X8_findMultiple_2 Q (f + 1) n dv le p q m := by
  intro f
  induction f with
  | zero =>
    intro m n dv le hm hm1 hM
    rw [mfc, if_pos (by omega)] at hM
    rw [wp_X8_findMultiple_2]
    subst hM
    exact ⟨fun _ => h _ _ _ (fun m e => by omega), fun z => absurd z (by omega)⟩
  | succ f ih =>
    intro m n dv le hm hm1 hM
    rw [mfc_s (by omega)] at hM
    rw [wp_X8_findMultiple_2]
    have c1 : (q : Int) * (m : Int) = ((q * m : Nat) : Int) := rfl
    have c2 : (p : Int) * (m : Int) = ((p * m : Nat) : Int) := rfl
    have c3 : (m : Int) + 1 = ((m + 1 : Nat) : Int) := rfl
    rw [c1, c2, c3]
    have hpm : p * m ≤ q * m := Nat.mul_le_mul_right m (by omega)
    have hqm : 1 ≤ q * m := Nat.mul_pos (by omega) hm1
    have hqb : q * m ≤ 5000 * 200 := Nat.mul_le_mul hq (by omega)
    refine ⟨fun z => absurd z (by omega), fun _ => ⟨⟨by omega, by omega⟩, fun z => ?_, fun z => ?_⟩⟩
    · have hle : q * m ≤ 5000 := by omega
      rw [if_neg (by omega)] at hM
      have hb := dvL_48 (v := q * m) (n := q * m) hqm hle
      refine ⟨⟨by omega, by omega⟩, findDivisors8 hqm hle (fun dv' hdv' => ⟨⟨by omega, by omega⟩, findLeast8 (by omega) hb (fun d hd => (dvL_b hle hqm d hd).2) hdv' (fun le' hle' => ?_)⟩)⟩
      have hval := hle' (dvL (q * m) (q * m)).length (p * m) (Nat.le_refl _) (Nat.le_refl _)
      rw [Nat.sub_self, List.drop_zero, (lst_dv (v := q * m) (Nat.le_refl (p * m)) (q * m) hpm).1] at hval
      have hkey : ∀ g : Prop, ((5001 : Int) * ((dvL (q * m) (q * m)).length : Nat) + ((p * m : Nat) : Int) = ((5001 * (dvL (q * m) (q * m)).length + p * m : Nat) : Int) → g) → g := fun g hg => hg rfl
      refine hkey _ (fun c4 => ?_)
      rw [c4, hval]
      have hl1 := lst_le (dvL (q * m) (p * m)) (p * m)
      refine ⟨⟨by omega, by omega⟩, ⟨by omega, by omega⟩, ⟨by omega, by omega⟩, by omega, by omega, fun w => ⟨⟨by omega, by omega⟩, ?_⟩, fun w => ?_⟩
      · have hr : ¬ rch (dvL (q * m) (p * m)) (p * m) = true := fun y => by
          have h1 := (rch_lst _ _).1 y
          have h2 := dvL_48 (v := q * m) (n := p * m) hqm hle
          omega
        rw [if_neg hr] at hM
        exact ih (m + 1) _ _ _ (by omega) (by omega) hM
      · have hr : rch (dvL (q * m) (p * m)) (p * m) = true := by
          cases e : rch (dvL (q * m) (p * m)) (p * m) with
          | true => rfl
          | false => have := (rch_lst _ _).2 e; omega
        rw [if_pos hr] at hM
        subst hM
        refine h _ _ _ (fun m' e => ?_)
        have : m' = m := by omega
        subst this
        exact ⟨hle, hm1, hr, rfl, hdv', hle'⟩
    · have hgt : 5000 < q * m := by omega
      rw [if_pos hgt] at hM
      subst hM
      exact h _ _ _ (fun m e => by omega)
theorem multipleOf8 {Q : Int → Int → (Int → Int) → (Int → Int) → Prop} {mu md : Int → Int} {r n : Int} {dv le : Int → Int} {p q : Nat} (h0 : 0 ≤ r) (h8 : r < 8) (e3 : mu r = p) (e4 : md r = q) (hq : q ≤ 1000000)
    (hno : ¬ (0 < p ∧ p < q) → Q (-2) n dv le)
    (h : 0 < p → p < q → ∀ (n : Int) (dv le : Int → Int), (∀ m : Nat, mfc p q 201 1 = m → q * m ≤ 5000 ∧ 1 ≤ m ∧ rch (dvL (q * m) (p * m)) (p * m) = true ∧ n = ((dvL (q * m) (q * m)).length : Nat) ∧ rep dv (dvL (q * m) (q * m)).reverse ∧ LR (dvL (q * m) (q * m)) (p * m) (dvL (q * m) (q * m)).length le) → Q (mfc p q 201 1) n dv le) : wp_X8_multipleOf Q mu md n dv le r := by
  unfold wp_X8_multipleOf wp_X8_multipleOf_44
  refine isPart8 h0 h8 ?_
  rw [e3, e4]
  by_cases hp : 0 < p ∧ p < q
  · rw [if_pos (by omega)]
    refine ⟨fun _ => ⟨h0, h8, fun w => ⟨h0, h8, h0, h8, 201, ?_⟩, fun w => ?_⟩, fun z => absurd z (by omega)⟩
    · exact fmu2 (M := mfc p q 201 1) (by omega) hp.2 (by omega) (h hp.1 hp.2) 200 1 n dv le (by omega) (by omega) rfl
    · have e : mfc p q 201 1 = -5 := by
        rw [mfc_s (by omega), if_pos (by omega)]
      have := h hp.1 hp.2 n dv le (fun m em => by omega)
      rw [e] at this
      exact this
  · rw [if_neg (by omega)]
    exact ⟨fun z => absurd rfl z, fun _ => hno hp⟩
theorem multiple_ok {sa sb mu md : Int → Int} (hI : RG sa sb mu md) {dv re fe ta co : Int → Int} {ds sz ap aq fac : Int} (hD : DI co sz ap aq fac) {n : Int} {dv8 le : Int → Int} (r : Int) {K : Int → (Int → Int) → (Int → Int) → (Int → Int) → (Int → Int) → (Int → Int) → Int → Int → Int → Int → Int → Int → Int → (Int → Int) → (Int → Int) → Prop}
    (hK : ∀ v dv re fe ta co ds sz ap aq fac n dv8 le, DI co sz ap aq fac → K v dv re fe ta co ds sz ap aq fac v n dv8 le) :
    wp_X7_multiple (fun v dv re fe ta co ds sz ap aq fac => wp_X8_multiple (fun v2 n dv8 le => K v dv re fe ta co ds sz ap aq fac v2 n dv8 le) mu md n dv8 le r) sa sb dv re fe ta co ds sz ap aq fac r := by
  unfold wp_X7_multiple wp_X7_multiple_41
  refine isReg7 ?_
  by_cases hr : 0 ≤ r ∧ r < 8
  · rw [if_pos hr]
    refine ⟨fun _ => isProper7 ?_, fun z => absurd z (by omega)⟩
    obtain ⟨p, q, e1, e2, e3, e4, b1, b2, b3, b4⟩ := reg_nat hI hr.1 hr.2
    rw [e1, e2]
    have ref : ∀ {Q : Int → Int → (Int → Int) → (Int → Int) → Prop}, wp_X8_multipleOf Q mu md n dv8 le r → wp_X8_multiple Q mu md n dv8 le r := by
      intro Q hQ
      unfold wp_X8_multiple wp_X8_multiple_16
      refine isReg8 ?_
      rw [if_pos hr]
      exact ⟨fun z => absurd z (by omega), fun _ => hQ⟩
    by_cases hp : (0 ≤ r ∧ r < 8) ∧ 0 < (p : Int) ∧ (p : Int) < q
    · rw [if_pos hp]
      refine ⟨fun z => absurd z (by omega), fun _ => ⟨hr.1, hr.2, hr.1, hr.2, factorFor0 hD (by omega) (by omega) b3 (fun dv' re' fe' ta' co' ds' sz' hs => ref (multipleOf8 hr.1 hr.2 e3 e4 b3 (fun z => absurd z (by omega)) (fun _ _ n' dv'' le' _ => ?_)))⟩⟩
      exact hK _ _ _ _ _ _ _ _ _ _ _ _ _ _ (DI_mk hs)
    · rw [if_neg hp]
      refine ⟨fun _ => ref (multipleOf8 hr.1 hr.2 e3 e4 b3 (fun _ => hK _ _ _ _ _ _ _ _ _ _ _ _ _ _ hD) (fun z y => absurd ⟨hr, by omega, by omega⟩ hp)), fun z => absurd rfl z⟩
  · rw [if_neg hr]
    refine ⟨fun z => absurd rfl z, fun _ => ?_⟩
    unfold wp_X8_multiple wp_X8_multiple_16
    refine isReg8 ?_
    rw [if_neg hr]
    exact ⟨fun _ => hK _ _ _ _ _ _ _ _ _ _ _ _ _ _ hD, fun z => absurd rfl z⟩
theorem dv71 {Q : Int → Int → (Int → Int) → (Int → Int) → Prop} {mu md : Int → Int} {F : List Nat} {dv le : Int → Int} {t : Nat} (ht : t ≤ 5000) (hF : F.length ≤ 48) (hFd : ∀ d ∈ F, 1 ≤ d ∧ d ≤ 5000) (hdv : rep dv F.reverse) (hle : LR F t F.length le) :
    ∀ (k x i : Nat), k ≤ F.length → x ≤ t → i < 2147483648 → lst (F.drop (F.length - k)) x < 1000 → (∀ d, (chs (F.drop (F.length - k)) x)[i]? = some d → Q d (F.length : Nat) dv le) → ((chs (F.drop (F.length - k)) x).length ≤ i → Q (-4) (F.length : Nat) dv le) →
      wp_X8_divisor_71 Q mu md (k + 1) (F.length : Nat) dv le x i k := by
  intro k
  induction k with
  | zero =>
    intro x i hk hx hi hlt h1 h2
    rw [wp_X8_divisor_71]
    unfold wp_X8_divisor_195
    rw [Nat.sub_zero, List.drop_length, chs] at h2
    exact ⟨fun _ => h2 (by simp), fun z => absurd z (by omega)⟩
  | succ k ih =>
    intro x i hk hx hi hlt h1 h2
    rw [wp_X8_divisor_71]
    unfold wp_X8_divisor_195 wp_X8_divisor_142 wp_X8_divisor_143 wp_X8_divisor_158 wp_X8_divisor_170 wp_X8_divisor_186
    have e0 : ((k + 1 : Nat) : Int) - 1 = (k : Int) := by omega
    have e9 : ((k + 1 : Nat) : Int) + (-1) = (k : Int) := by omega
    rw [e0, e9]
    obtain ⟨d, hd, hdk, hdrop⟩ := drop_s hdv (show k < F.length by omega)
    have hdb := hFd d hd
    have v1 := hle (k + 1) x (by omega) hx
    have v2 := fun y hy => hle k y (by omega) hy
    rw [hdrop] at hlt h1 h2 v1
    have nx := ih
    generalize F.drop (F.length - k) = r at *
    have hlr := lst_le r x
    -- not taken
    have no : ¬ (d ≤ x ∧ lst r (x - d) + 1 = lst (d :: r) x) → 0 < x → (r32 ((i : Int) - 0) ∧ ∀ y : Int, y = (i : Int) - 0 → (((0 : Int) = 0 → r32 ((x : Int) - 0) ∧ ∀ z : Int, z = (x : Int) - 0 → r32 (k : Int) ∧ wp_X8_divisor_71 Q mu md (k + 1) (F.length : Nat) dv le z y k) ∧ (¬ (0 : Int) = 0 → r32 ((x : Int) - (d : Int)) ∧ ∀ z : Int, z = (x : Int) - (d : Int) → r32 (k : Int) ∧ wp_X8_divisor_71 Q mu md (k + 1) (F.length : Nat) dv le z y k))) := by
      intro hn hx0
      have e3 : lst (d :: r) x = lst r x := by
        by_cases hdx : d ≤ x
        · rw [lst_w hdx] at hn ⊢
          split
          · rename_i q; rw [if_pos q] at hn; exact absurd ⟨hdx, rfl⟩ hn
          · rfl
        · exact lst_big (by omega)
      have e4 : chs (d :: r) x = chs r x := by rw [chs, if_neg (by omega), if_neg hn]
      refine ⟨⟨by omega, by omega⟩, fun y hy => ⟨fun _ => ⟨⟨by omega, by omega⟩, fun z hz => ⟨⟨by omega, by omega⟩, ?_⟩⟩, fun z => absurd rfl z⟩⟩
      have ey : y = (i : Int) := by omega
      have ez : z = (x : Int) := by omega
      rw [ey, ez]
      rw [e3] at hlt
      rw [e4] at h1 h2
      exact nx x i (by omega) hx hi hlt h1 h2
    refine ⟨fun z => absurd z (by omega), fun _ => ⟨fun z => ?_, fun z => ⟨⟨by omega, by omega⟩, by omega, by omega, fun a ha => ?_⟩⟩⟩
    · have : x = 0 := by omega
      subst this
      rw [chs_0] at h2
      exact h2 (by simp)
    · rw [ha, hdk]
      refine ⟨fun w => ⟨fun _ => ⟨fun _ => no (by omega) (by omega), fun y => absurd rfl y⟩, fun y => absurd rfl y⟩, fun w => ?_⟩
      have e5 : (5001 : Int) * (k : Int) + (x : Int) - (d : Int) = ((5001 * k + (x - d) : Nat) : Int) := by omega
      have e6 : (5001 : Int) * ((k + 1 : Nat) : Int) + (x : Int) = ((5001 * (k + 1) + x : Nat) : Int) := rfl
      rw [e5, e6, v1, v2 (x - d) (by omega)]
      have hl2 := lst_le r (x - d)
      have hl3 := lst_le (d :: r) x
      refine ⟨⟨by omega, by omega⟩, ⟨by omega, by omega⟩, ⟨by omega, by omega⟩, ⟨by omega, by omega⟩, by omega, by omega, ⟨by omega, by omega⟩, ⟨by omega, by omega⟩, ⟨by omega, by omega⟩, by omega, by omega, fun u => ⟨fun _ => ⟨fun _ => no (by omega) (by omega), fun y => absurd rfl y⟩, fun y => absurd rfl y⟩, fun u => ⟨fun y => absurd y (by omega), fun _ => ⟨fun y => ⟨fun y => absurd y (by omega), fun _ => ⟨⟨by omega, by omega⟩, fun b hb => ⟨fun y => absurd y (by omega), fun _ => ⟨⟨by omega, by omega⟩, fun c hc => ⟨⟨by omega, by omega⟩, ?_⟩⟩⟩⟩⟩, fun y => ?_⟩⟩⟩
      · have hc2 : d ≤ x ∧ lst r (x - d) + 1 = lst (d :: r) x := ⟨by omega, by omega⟩
        have e4 : chs (d :: r) x = d :: chs r (x - d) := by rw [chs, if_neg (by omega), if_pos hc2]
        rw [e4] at h1 h2
        have eb : b = ((i - 1 : Nat) : Int) := by omega
        have ec : c = ((x - d : Nat) : Int) := by omega
        rw [eb, ec]
        have ei : i = (i - 1) + 1 := by omega
        refine nx (x - d) (i - 1) (by omega) (by omega) (by omega) (by omega) (fun d' hd' => h1 d' ?_) (fun hl => h2 ?_)
        · rw [ei, List.getElem?_cons_succ]; exact hd'
        · rw [List.length_cons]; omega
      · have hc2 : d ≤ x ∧ lst r (x - d) + 1 = lst (d :: r) x := ⟨by omega, by omega⟩
        have e4 : chs (d :: r) x = d :: chs r (x - d) := by rw [chs, if_neg (by omega), if_pos hc2]
        rw [e4] at h1
        have ei : i = 0 := by omega
        subst ei
        exact h1 d rfl
theorem divisor_ok {sa sb mu md : Int → Int} (hI : RG sa sb mu md) {dv re fe ta co : Int → Int} {ds sz ap aq fac : Int} (hD : DI co sz ap aq fac) {n : Int} {dv8 le : Int → Int} (r i : Int) (hi32 : i < 2147483648) {K : Int → (Int → Int) → (Int → Int) → (Int → Int) → (Int → Int) → (Int → Int) → Int → Int → Int → Int → Int → Int → Int → (Int → Int) → (Int → Int) → Prop}
    (hK : ∀ v dv re fe ta co ds sz ap aq fac n dv8 le, DI co sz ap aq fac → K v dv re fe ta co ds sz ap aq fac v n dv8 le) :
    wp_X7_divisor (fun v dv re fe ta co ds sz ap aq fac => wp_X8_divisor (fun v2 n dv8 le => K v dv re fe ta co ds sz ap aq fac v2 n dv8 le) mu md n dv8 le r i) sa sb dv re fe ta co ds sz ap aq fac r i := by
  unfold wp_X7_divisor wp_X7_divisor_12 wp_X7_divisor_88 wp_X0_size
  refine isReg7 ?_
  by_cases hr : 0 ≤ r ∧ r < 8
  · rw [if_pos hr]
    have bad : ∀ {Q : Int → Int → (Int → Int) → (Int → Int) → Prop}, ¬ -1 ≤ i → Q (-1) n dv8 le → wp_X8_divisor Q mu md n dv8 le r i := by
      intro Q hi hQ
      unfold wp_X8_divisor wp_X8_divisor_12
      refine isReg8 ?_
      rw [if_pos hr]
      exact ⟨fun z => absurd z (by omega), fun _ => ⟨fun z => absurd z hi, fun _ => hQ⟩⟩
    refine ⟨fun z => absurd z (by omega), fun _ => ⟨fun hi => isProper7 ?_, fun hi => bad hi (hK _ _ _ _ _ _ _ _ _ _ _ _ _ _ hD)⟩⟩
    obtain ⟨p, q, e1, e2, e3, e4, b1, b2, b3, b4⟩ := reg_nat hI hr.1 hr.2
    rw [e1, e2]
    by_cases hp : (0 ≤ r ∧ r < 8) ∧ 0 < (p : Int) ∧ (p : Int) < q
    · rw [if_pos hp]
      -- the reference gives the list's place
      have ref : ∀ {Q : Int → Int → (Int → Int) → (Int → Int) → Prop}, (∀ n dv le, ¬ 0 ≤ mfc p q 201 1 → Q (mfc p q 201 1) n dv le) → (∀ (m : Nat) n dv le, mfc p q 201 1 = m → i = -1 → Q ((chs (dvL (q * m) (p * m)) (p * m)).length : Nat) n dv le) → (∀ (m d : Nat) n dv le, mfc p q 201 1 = m → 0 ≤ i → (chs (dvL (q * m) (p * m)) (p * m))[i.toNat]? = some d → Q d n dv le) → (∀ (m : Nat) n dv le, mfc p q 201 1 = m → 0 ≤ i → (chs (dvL (q * m) (p * m)) (p * m)).length ≤ i.toNat → Q (-4) n dv le) → wp_X8_divisor Q mu md n dv8 le r i := by
        intro Q q1 q2 q3 q4
        unfold wp_X8_divisor wp_X8_divisor_12
        refine isReg8 ?_
        rw [if_pos hr]
        refine ⟨fun z => absurd z (by omega), fun _ => ⟨fun _ => multipleOf8 hr.1 hr.2 e3 e4 b3 (fun z => absurd z (by omega)) (fun _ _ n' dv' le' hs => ⟨fun hM => ?_, fun hM => q1 _ _ _ hM⟩), fun z => absurd hi z⟩⟩
        obtain ⟨m, hm⟩ := Int.eq_ofNat_of_zero_le hM
        obtain ⟨s1, s2, s3, s4, s5, s6⟩ := hs m hm
        have hpm : p * m ≤ q * m := Nat.mul_le_mul_right m (by omega)
        have hqm : 1 ≤ q * m := Nat.mul_pos (by omega) s2
        have hb := dvL_48 (v := q * m) (n := q * m) hqm s1
        have hdv := lst_dv (v := q * m) (Nat.le_refl (p * m)) (q * m) hpm
        have hlt : lst (dvL (q * m) (q * m)) (p * m) < 1000 := by
          rw [hdv.1]
          have h1 := (rch_lst _ _).1 s3
          have h2 := dvL_48 (v := q * m) (n := p * m) hqm s1
          omega
        have hval := s6 (dvL (q * m) (q * m)).length (p * m) (Nat.le_refl _) (Nat.le_refl _)
        rw [Nat.sub_self, List.drop_zero] at hval
        have hlen := chs_len _ _ hlt
        rw [hdv.2] at hlen
        rw [hm, e3, s4]
        have c2 : (p : Int) * (m : Int) = ((p * m : Nat) : Int) := rfl
        rw [c2]
        refine ⟨hr.1, hr.2, ⟨by omega, by omega⟩, fun x hx => ?_⟩
        rw [hx]
        have hkey : ∀ g : Prop, ((5001 : Int) * ((dvL (q * m) (q * m)).length : Nat) + ((p * m : Nat) : Int) = ((5001 * (dvL (q * m) (q * m)).length + p * m : Nat) : Int) → g) → g := fun g hg => hg rfl
        refine hkey _ (fun c4 => ?_)
        rw [c4]
        refine ⟨⟨by omega, by omega⟩, ⟨by omega, by omega⟩, by omega, by omega, fun y hy => ⟨fun w => ⟨(dvL (q * m) (q * m)).length + 1, ?_⟩, fun w => ?_⟩⟩
        · have ei : i = ((i.toNat : Nat) : Int) := by omega
          have go := dv71 (Q := Q) (mu := mu) (md := md) (F := dvL (q * m) (q * m)) (t := p * m) (by omega) hb (dvL_b s1 hqm) s5 s6 (dvL (q * m) (q * m)).length (p * m) i.toNat (Nat.le_refl _) (Nat.le_refl _) (by omega) (by rw [Nat.sub_self, List.drop_zero]; exact hlt)
          rw [Nat.sub_self, List.drop_zero, hdv.2] at go
          rw [ei]
          exact go (fun d hd => q3 m d _ _ _ hm (by omega) hd) (fun hl => q4 m _ _ _ hm (by omega) hl)
        · rw [hy, hval, ← hlen]
          exact q2 m _ _ _ hm w
      refine ⟨fun _ => ⟨hr.1, hr.2, hr.1, hr.2, factorFor0 hD (by omega) (by omega) b3 (fun dv' re' fe' ta' co' ds' sz' hs => ⟨fun hM => ?_, fun hM => ?_⟩)⟩, fun z => absurd z (by omega)⟩
      · obtain ⟨m, hm⟩ := Int.eq_ofNat_of_zero_le hM
        obtain ⟨s1, s2⟩ := hs m hm
        have same : ∀ m' : Nat, mfc p q 201 1 = m' → m' = m := fun m' e => by omega
        have hlen48 : (chs (dvL (q * m) (p * m)) (p * m)).length ≤ 48 := by
          have h1 := chs_lenle (dvL (q * m) (p * m)) (p * m)
          -- the least m is a number whose multiple is at most 5000
          have h2 : q * m ≤ 5000 ∧ 1 ≤ m := by
            have key : ∀ (f k : Nat), 1 ≤ k → mfc p q f k = (m : Int) → q * m ≤ 5000 ∧ 1 ≤ m := by
              intro f
              induction f with
              | zero => intro k _ e; rw [mfc] at e; omega
              | succ f ih =>
                intro k hk e
                rw [mfc] at e
                split at e
                · omega
                split at e
                · omega
                split at e
                · have : k = m := by omega
                  subst this
                  exact ⟨by omega, hk⟩
                · exact ih (k + 1) (by omega) e
            exact key 201 1 (by omega) hm
          have h3 := dvL_48 (v := q * m) (n := p * m) (Nat.mul_pos (by omega) h2.2) h2.1
          omega
        rw [s1]
        refine ⟨fun w => ⟨fun y => ref (fun _ _ _ z => absurd hM z) (fun m' _ _ _ e z => absurd z w) (fun m' d _ _ _ e z hd => ?_) (fun m' _ _ _ e z hd => hK _ _ _ _ _ _ _ _ _ _ _ _ _ _ ?_), fun y => ?_⟩, fun w => ref (fun _ _ _ z => absurd hM z) (fun m' _ _ _ e z => ?_) (fun m' d _ _ _ e z hd => absurd w (by omega)) (fun m' _ _ _ e z hd => absurd w (by omega))⟩
        · have := same m' e
          subst this
          have := (List.getElem?_eq_some_iff.mp hd).1
          omega
        · rw [← s1]; exact DI_mk hs
        · unfold wp_X0_at wp_X0_at_30 wp_X0_at_31
          refine ⟨fun z => absurd z (by omega), fun _ => ⟨fun z => absurd z y, fun _ => ⟨fun z => absurd z (by omega), fun _ => ⟨by omega, by omega, ref (fun _ _ _ z => absurd hM z) (fun m' _ _ _ e z => absurd z w) (fun m' d _ _ _ e z hd => ?_) (fun m' _ _ _ e z hd => ?_)⟩⟩⟩⟩
          · have := same m' e
            subst this
            have h5 := s2 _ _ hd
            have ei : ((i.toNat : Nat) : Int) = i := by omega
            rw [ei] at h5
            rw [h5, ← s1]
            exact hK _ _ _ _ _ _ _ _ _ _ _ _ _ _ (DI_mk hs)
          · have := same m' e
            subst this
            omega
        · have := same m' e
          subst this
          have e7 := DI_mk hs
          rw [s1] at e7
          exact hK _ _ _ _ _ _ _ _ _ _ _ _ _ _ e7
      · exact ref (fun _ _ _ _ => hK _ _ _ _ _ _ _ _ _ _ _ _ _ _ (DI_mk hs)) (fun m' _ _ _ e z => absurd hM (by omega)) (fun m' d _ _ _ e z hd => absurd hM (by omega)) (fun m' _ _ _ e z hd => absurd hM (by omega))
    · rw [if_neg hp]
      refine ⟨fun z => absurd rfl z, fun _ => ?_⟩
      unfold wp_X8_divisor wp_X8_divisor_12
      refine isReg8 ?_
      rw [if_pos hr]
      exact ⟨fun z => absurd z (by omega), fun _ => ⟨fun _ => multipleOf8 hr.1 hr.2 e3 e4 b3 (fun _ => ⟨fun z => absurd z (by omega), fun _ => hK _ _ _ _ _ _ _ _ _ _ _ _ _ _ hD⟩) (fun z y => absurd ⟨hr, by omega, by omega⟩ hp), fun z => absurd hi z⟩⟩
  · rw [if_neg hr]
    refine ⟨fun _ => ?_, fun z => absurd rfl z⟩
    unfold wp_X8_divisor wp_X8_divisor_12
    refine isReg8 ?_
    rw [if_neg hr]
    exact ⟨fun _ => hK _ _ _ _ _ _ _ _ _ _ _ _ _ _ hD, fun z => absurd rfl z⟩
