/-! ===== leaving out the multiples that are in no sum ===== -/
def prs : List Nat := [59, 53, 47, 43, 41, 37, 31, 29, 23, 19, 17, 13, 11, 7, 5, 3, 2]
def fM (P : Nat) : Nat := if P = 2 then 4 else if P = 3 then 3 else if P ≤ 13 then 1 else 0
theorem prs_pr : ∀ P ∈ prs, isPr P := by
  intro P hP
  have key : ∀ P ∈ prs, 2 ≤ P ∧ ∀ d, d < P + 1 → d ∣ P → d = 1 ∨ d = P := by decide +kernel
  exact isPr_dec (key P hP).1 (key P hP).2
theorem prs_few : ∀ P ∈ prs, (60 / P ^ (fM P + 1) ≤ 1) ∨ (60 / P ^ (fM P + 1) ≤ 2 ∧ 5 ≤ P) ∨ (60 / P ^ (fM P + 1) ≤ 3 ∧ 17 ≤ P) := by decide +kernel
theorem prs_b : ∀ P ∈ prs, 2 ≤ P ∧ P ≤ 59 := by decide +kernel
theorem pfree {P : Nat} (hP : 2 ≤ P) : ∀ n, 1 ≤ n → ∃ s K, n = P ^ s * K ∧ ¬ P ∣ K := by
  intro n
  induction n using Nat.strongRecOn with
  | ind n ih =>
    intro hn
    by_cases hd : P ∣ n
    · obtain ⟨m, rfl⟩ := hd
      have hm : 1 ≤ m := by
        rcases Nat.eq_zero_or_pos m with z | z
        · subst z; omega
        · exact z
      have hlt : m < P * m := by
        have : 2 * m ≤ P * m := Nat.mul_le_mul_right m hP
        omega
      obtain ⟨s, K, e, h⟩ := ih m hlt hm
      exact ⟨s + 1, K, by rw [Nat.pow_succ]; rw [e]; grind, h⟩
    · exact ⟨0, n, by rw [Nat.pow_zero, Nat.one_mul], hd⟩
def SumL (p q lm : Nat) (l : List Nat) : Prop := l.Sublist (rl lm (lm - 1)) ∧ (l.map (cw q)).sum = p * WW
theorem rl_up {n : Nat} : ∀ m, m ≤ n → (rl n m).Pairwise (fun x y => x < y) := by
  intro m
  induction m with
  | zero => intro _; exact List.Pairwise.nil
  | succ m ih =>
    intro hm
    rw [rl]
    refine List.pairwise_cons.mpr ⟨fun x hx => ?_, ih (by omega)⟩
    have := (rl_mem (n := n) m x (by omega)).mp hx
    omega
theorem SumL_b {p q lm : Nat} {l : List Nat} (hlm : lm ≤ 60) (h2 : 2 ≤ lm) (h : SumL p q lm l) : l.Pairwise (fun x y => x < y) ∧ ∀ x ∈ l, 2 ≤ x ∧ x ≤ lm := by
  refine ⟨List.Pairwise.sublist h.1 (rl_up (lm - 1) (by omega)), fun x hx => ?_⟩
  have := (rl_mem (n := lm) (lm - 1) x (by omega)).mp (h.1.subset hx)
  omega
/-- a number whose bits are given -/
def mkc (f : Nat → Bool) : Nat → Nat
  | 0 => 0
  | n + 1 => mkc f n + (if f n = true then 2 ^ n else 0)
theorem mkc_ok {f : Nat → Bool} : ∀ n, mkc f n < 2 ^ n ∧ ∀ i, (mkc f n).testBit i = (decide (i < n) && f i) := by
  intro n
  induction n with
  | zero => exact ⟨by rw [mkc]; simp, fun i => by rw [mkc]; simp⟩
  | succ n ih =>
    obtain ⟨i1, i2⟩ := ih
    rw [mkc, Nat.pow_succ]
    by_cases hf : f n = true
    · rw [if_pos hf]
      refine ⟨by omega, fun i => ?_⟩
      have e : mkc f n + 2 ^ n = 2 ^ n * 1 + mkc f n := by omega
      rw [e, Nat.testBit_two_pow_mul_add 1 i1]
      by_cases hi : i < n
      · rw [if_pos hi, i2, decide_eq_true hi, decide_eq_true (show i < n + 1 by omega)]
      · rw [if_neg hi]
        by_cases he : i = n
        · subst he; rw [Nat.sub_self, decide_eq_true (show i < i + 1 by omega), hf]; rfl
        · rw [decide_eq_false (show ¬ i < n + 1 by omega), Bool.false_and]
          rw [show (1 : Nat) = 2 ^ 0 from rfl, Nat.testBit_two_pow, decide_eq_false (by omega)]
    · rw [if_neg hf, Nat.add_zero]
      refine ⟨by omega, fun i => ?_⟩
      rw [i2]
      by_cases he : i = n
      · subst he
        have : f i = false := by simpa using hf
        rw [this, Bool.and_false, Bool.and_false]
      · by_cases hi : i < n
        · rw [decide_eq_true hi, decide_eq_true (show i < n + 1 by omega)]
        · rw [decide_eq_false hi, decide_eq_false (show ¬ i < n + 1 by omega)]
theorem choice_sum {G l : List Nat} {tv : Nat → Nat} : ∀ i, i ≤ G.length → lsm (fun j => tv (G.getD j 0)) (mkc (fun j => decide (G.getD j 0 ∈ l)) G.length) i = (((G.take i).filter (fun x => decide (x ∈ l))).map tv).sum := by
  intro i
  induction i with
  | zero => intro _; rfl
  | succ i ih =>
    intro hi
    have hil : i < G.length := by omega
    have hget : G[i]? = some G[i] := List.getElem?_eq_getElem hil
    have hgd : G.getD i 0 = G[i] := by rw [List.getD_eq_getElem?_getD, hget]; rfl
    have et : G.take (i + 1) = G.take i ++ [G[i]] := by rw [List.take_add_one, hget]; rfl
    rw [lsm, ih (by omega), (mkc_ok _).2, decide_eq_true hil, Bool.true_and, hgd, et, List.filter_append, List.map_append, List.sum_append]
    congr 1
    by_cases hm : G[i] ∈ l
    · rw [if_pos (decide_eq_true hm)]; simp [List.filter_cons, hm]
    · rw [if_neg (by rw [decide_eq_true_iff]; exact hm)]; simp [List.filter_cons, hm]
/-- the numbers tried are in a sum only by a choice that leaves what is due -/
theorem sum_choice {p q lm P e h K s o : Nat} {ba : Int} {l : List Nat} (hlm : lm ≤ 60) (h2 : 2 ≤ lm) (hP : isPr P) (he1 : 1 ≤ e) (hW : WW = P ^ s * K) (hK : ¬ P ∣ K) (hq : q = P ^ h * o) (hq1 : 1 ≤ q) (he : h ≤ e) (hS : SumL p q lm l) (hB : ∀ x ∈ l, brd ba x = false)
    (hhi : ∀ v, 2 ≤ v → v ≤ lm → P ^ (e + 1) ∣ v → brd ba v = true) :
    let G := mlt (brd ba) (P ^ e) (lm / P ^ e)
    let c := mkc (fun j => decide (G.getD j 0 ∈ l)) G.length
    (P : Int) ∣ ((lsm (fun j => mInv (G.getD j 0 / P ^ e) P) c G.length : Nat) : Int) * (o : Int) - (p : Int) * ((P ^ (e - h) : Nat) : Int) := by
  intro G c
  obtain ⟨hup, hb⟩ := SumL_b hlm h2 hS
  have hpe : 0 < P ^ e := Nat.pow_pos (by have := hP.1; omega)
  have hx : ∀ x ∈ l, 2 ≤ x ∧ x ≤ 60 ∧ ¬ P ^ (e + 1) ∣ x := by
    intro x hx
    have hxb := hb x hx
    refine ⟨hxb.1, by omega, fun d => ?_⟩
    have := hhi x hxb.1 hxb.2 d
    rw [hB x hx] at this
    exact absurd this (by decide)
  have hst := stage hP he1 hW hK hq hq1 he hx hS.2 (fun x => mInv (x / P ^ e) P) (fun x hxl hd => ?_)
  · -- the same numbers
    have hmemG : ∀ x, x ∈ G.filter (fun x => decide (x ∈ l)) ↔ x ∈ l.filter (fun x => decide (P ^ e ∣ x)) := by
      intro x
      rw [List.mem_filter, List.mem_filter, decide_eq_true_iff, decide_eq_true_iff, mlt_mem]
      constructor
      · rintro ⟨⟨j, a, b, d, f⟩, g⟩
        exact ⟨g, ⟨j, by rw [d, Nat.mul_comm]⟩⟩
      · rintro ⟨g, j, hj⟩
        have hxb := hb x g
        refine ⟨⟨j, ?_, ?_, by rw [hj, Nat.mul_comm], hB x g⟩, g⟩
        · rcases Nat.eq_zero_or_pos j with z | z
          · rw [z, Nat.mul_zero] at hj; omega
          · exact z
        · exact (Nat.le_div_iff_mul_le hpe).mpr (by rw [Nat.mul_comm, ← hj]; exact hxb.2)
    have hGn : G.Nodup := by
      have : ∀ t, (mlt (brd ba) (P ^ e) t).Nodup := by
        intro t
        induction t with
        | zero => exact List.nodup_nil
        | succ t ih =>
          rw [mlt]
          split
          · refine List.nodup_append.mpr ⟨ih, by simp, fun a ha b hb' e2 => ?_⟩
            obtain ⟨j, j1, j2, j3, _⟩ := (mlt_mem t).mp ha
            have hb2 := List.mem_singleton.mp hb'
            rw [e2, hb2] at j3
            have := Nat.eq_of_mul_eq_mul_right hpe j3
            omega
          · rw [List.append_nil]; exact ih
      exact this _
    have hperm := (List.perm_ext_iff_of_nodup (List.Pairwise.filter (fun x => decide (x ∈ l)) hGn) (List.Pairwise.filter (fun x => decide (P ^ e ∣ x)) (hup.imp (fun h => Nat.ne_of_lt h)))).mpr hmemG
    have hs := (hperm.map (fun x => mInv (x / P ^ e) P)).sum_nat
    have hc := choice_sum (G := G) (l := l) (tv := fun x => mInv (x / P ^ e) P) G.length (Nat.le_refl _)
    rw [List.take_length] at hc
    show (P : Int) ∣ ((lsm (fun j => (fun x => mInv (x / P ^ e) P) (G.getD j 0)) c G.length : Nat) : Int) * (o : Int) - (p : Int) * ((P ^ (e - h) : Nat) : Int)
    rw [hc, hs]
    exact hst
  · have hnd : ¬ P ∣ x / P ^ e := by
      intro d
      apply (hx x hxl).2.2
      obtain ⟨m, hm⟩ := hd
      rw [hm, Nat.mul_div_cancel_left m hpe] at d
      rw [hm, Nat.pow_succ]
      exact Nat.mul_dvd_mul_left _ d
    exact (mInv_spec (by have := hP.1; omega) (pr_cop hP hnd)).2
/-- few multiples: nothing of them cancels -/
def hsm (R : Nat) : Nat → Nat
  | 0 => 0
  | m + 1 => hsm R m + R / (m + 1)
theorem no_cancel {P w R m : Nat} {b : Nat → Bool} {lv : Nat → Nat} (hP : isPr P) (hw : 1 ≤ w) (hR : ∀ j, 1 ≤ j → j ≤ m → j ∣ R ∧ 1 ≤ R / j) (hbig : hsm R m < P) (hlv : ∀ i x : Nat, (mlt b w m)[i]? = some x → (P : Int) ∣ (lv i : Int) * ((x / w : Nat) : Int) - 1) {c : Nat} (hc1 : 1 ≤ c) (hc2 : c < 2 ^ (mlt b w m).length) : ¬ lsm lv c (mlt b w m).length % P = 0 := by
  intro h0
  have hG : ∀ i x : Nat, (mlt b w m)[i]? = some x → ∃ j, 1 ≤ j ∧ j ≤ m ∧ x = j * w := by
    intro i x hx
    obtain ⟨j, a, c, d, _⟩ := (mlt_mem m).mp (List.mem_of_getElem? hx)
    exact ⟨j, a, c, d⟩
  -- R times what is left is the sum of R / j
  have key : ∀ i, i ≤ (mlt b w m).length → ∃ u : Int, (R : Int) * ((lsm lv c i : Nat) : Int) = ((lsm (fun k => R / ((mlt b w m).getD k 0 / w)) c i : Nat) : Int) + (P : Int) * u := by
    intro i
    induction i with
    | zero => intro _; exact ⟨0, by simp [lsm]⟩
    | succ i ih =>
      intro hi
      obtain ⟨u, hu⟩ := ih (by omega)
      have hil : i < (mlt b w m).length := by omega
      have hget : (mlt b w m)[i]? = some (mlt b w m)[i] := List.getElem?_eq_getElem hil
      have hgd : (mlt b w m).getD i 0 = (mlt b w m)[i] := by rw [List.getD_eq_getElem?_getD, hget]; rfl
      obtain ⟨j, j1, j2, j3⟩ := hG i _ hget
      obtain ⟨v, hv⟩ := hlv i _ hget
      rw [lsm, lsm, hgd]
      have ej : (mlt b w m)[i] / w = j := by rw [j3, Nat.mul_div_cancel j hw]
      rw [ej] at hv ⊢
      obtain ⟨r, hr⟩ := (hR j j1 j2).1
      have er : R / j = r := by rw [hr, Nat.mul_div_cancel_left r j1]
      rw [er]
      by_cases ht : c.testBit i = true
      · rw [if_pos ht, if_pos ht]
        refine ⟨u + (r : Int) * v, ?_⟩
        have e1 : (R : Int) = (j : Int) * (r : Int) := by rw [hr]; rfl
        have e2 : (lv i : Int) * (j : Int) = 1 + (P : Int) * v := by omega
        rw [Int.natCast_add, Int.natCast_add, Int.mul_add, hu, e1]
        have e3 : (j : Int) * (r : Int) * (lv i : Int) = (r : Int) * ((lv i : Int) * (j : Int)) := by grind
        rw [e3, e2]
        grind
      · rw [if_neg ht, if_neg ht, Nat.add_zero, Nat.add_zero]
        exact ⟨u, hu⟩
  obtain ⟨u, hu⟩ := key _ (Nat.le_refl _)
  generalize hN : lsm (fun k => R / ((mlt b w m).getD k 0 / w)) c (mlt b w m).length = N at hu
  have hdN : P ∣ N := by
    obtain ⟨z, hz⟩ := Nat.dvd_of_mod_eq_zero h0
    have : (P : Int) ∣ (N : Int) := ⟨(R : Int) * (z : Int) - u, by
      rw [hz, Int.natCast_mul] at hu
      grind⟩
    exact Int.natCast_dvd_natCast.mp this
  -- it is neither 0 nor too great
  have hpos : 0 < N := by
    -- some bit is set
    have hex : ∃ i, i < (mlt b w m).length ∧ c.testBit i = true := by
      rcases Classical.em (∃ i, i < (mlt b w m).length ∧ c.testBit i = true) with h | h
      · exact h
      · exfalso
        have : c = 0 := by
          apply Nat.eq_of_testBit_eq
          intro i
          rw [Nat.zero_testBit]
          rcases Nat.lt_or_ge i (mlt b w m).length with w1 | w1
          · cases hb : c.testBit i with
            | false => rfl
            | true => exact absurd ⟨i, w1, hb⟩ h
          · exact Nat.testBit_lt_two_pow (Nat.lt_of_lt_of_le hc2 (Nat.pow_le_pow_right (by omega) w1))
        omega
    obtain ⟨i, hi1, hi2⟩ := hex
    have hge : ∀ n, i < n → n ≤ (mlt b w m).length → 0 < lsm (fun k => R / ((mlt b w m).getD k 0 / w)) c n := by
      intro n
      induction n with
      | zero => intro h; omega
      | succ n ih =>
        intro h1 h2
        rw [lsm]
        by_cases en : i = n
        · subst en
          have hget : (mlt b w m)[i]? = some (mlt b w m)[i] := List.getElem?_eq_getElem hi1
          have hgd : (mlt b w m).getD i 0 = (mlt b w m)[i] := by rw [List.getD_eq_getElem?_getD, hget]; rfl
          obtain ⟨j, j1, j2, j3⟩ := hG i _ hget
          have ej : (mlt b w m)[i] / w = j := by rw [j3, Nat.mul_div_cancel j hw]
          rw [if_pos hi2, hgd, ej]
          have := (hR j j1 j2).2
          omega
        · have := ih (by omega) (by omega)
          omega
    rw [← hN]
    exact hge _ hi1 (Nat.le_refl _)
  have hle : N ≤ hsm R m := by
    rw [← hN]
    have h1 : ∀ (f : Nat → Nat) n, lsm f c n ≤ ((List.range n).map f).sum := by
      intro f n
      induction n with
      | zero => exact Nat.le_refl _
      | succ n ih =>
        rw [lsm, List.range_succ, List.map_append, List.sum_append, List.map_singleton, List.sum_singleton]
        split <;> omega
    refine Nat.le_trans (h1 _ _) ?_
    have h2 : ∀ t, ((List.range (mlt b w t).length).map (fun k => R / ((mlt b w t).getD k 0 / w))).sum ≤ hsm R t := by
      intro t
      have e : ∀ l : List Nat, (List.range l.length).map (fun k => R / (l.getD k 0 / w)) = l.map (fun x => R / (x / w)) := by
        intro l
        apply List.ext_getElem (by simp)
        intro i a1 a2
        simp only [List.getElem_map, List.getElem_range]
        have hil : i < l.length := by simpa using a2
        rw [List.getD_eq_getElem?_getD, List.getElem?_eq_getElem hil]; rfl
      rw [e]
      induction t with
      | zero => exact Nat.le_refl _
      | succ t ih =>
        rw [mlt, hsm, List.map_append, List.sum_append]
        have : ((if b ((t + 1) * w) = false then [(t + 1) * w] else []).map (fun x => R / (x / w))).sum ≤ R / (t + 1) := by
          split
          · rw [List.map_singleton, List.sum_singleton, Nat.mul_div_cancel _ hw]; exact Nat.le_refl _
          · exact Nat.zero_le _
        omega
    exact h2 m
  have := Nat.le_of_dvd hpos hdN
  omega
