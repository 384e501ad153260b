/-! ===== what the reference keeps of its search ===== -/
def SetR (s : Int) (l : List Nat) : Prop := r64 s ∧ ∀ i, bt s i = decide (i ∈ l)
def Stor (D : List (List Nat)) (ma sh st : Int → Int) : Prop := ∀ (i : Nat) (l : List Nat), D[i]? = some l → ma i = (l.length : Nat) ∧ (∀ j x : Nat, l[j]? = some x → sh ((6 * i + j : Nat) : Int) = x) ∧ SetR (st i) l
def gdL (k : Nat) (l : List Nat) : Prop := 1 ≤ l.length ∧ l.length ≤ k ∧ (∀ x ∈ l, 2 ≤ x ∧ x ≤ 60)
theorem note8 {f : Nat} {ma sh st ta : Int → Int} {l : List Nat} {D : List (List Nat)} (hf : D.length = f) (hf2 : f < 2000) (hl : gdL 6 l) (hD : ∀ x ∈ D, gdL 6 x) (hta : rep ta l) (hS : Stor D ma sh st) :
    ∃ ma' sh' st', Stor (D ++ [l]) ma' sh' st' ∧ ∀ Q : (Int → Int) → (Int → Int) → (Int → Int) → Prop, Q ma' sh' st' → wp_X8_note Q f ma sh st ta ((l.length : Nat) : Int) := by
  have hl6 := hl.2.1
  have loop : ∀ (c j : Nat) (sh' : Int → Int) (s : Int), j + c = l.length → (∀ y : Nat, y < 6 * f → sh' y = sh y) → (∀ i x : Nat, i < j → l[i]? = some x → sh' ((6 * f + i : Nat) : Int) = x) → SetR s (l.take j) → ∃ ma2 sh2 st2, Stor (D ++ [l]) ma2 sh2 st2 ∧ ∀ Q : (Int → Int) → (Int → Int) → (Int → Int) → Prop, Q ma2 sh2 st2 → wp_X8_note_5 Q f ta (c + 1) ma sh' st ((l.length : Nat) : Int) s j := by
    intro c
    induction c with
    | zero =>
      intro j sh' s hj h1 h2 h3
      have ej : j = l.length := by omega
      subst ej
      rw [List.take_length] at h3
      refine ⟨ups ma f ((l.length : Nat) : Int), sh', ups st f s, fun i x hx => ?_, fun Q h => ?_⟩
      · rcases Nat.lt_or_ge i D.length with w | w
        · rw [List.getElem?_append_left w] at hx
          obtain ⟨a, b, c⟩ := hS i x hx
          refine ⟨by rw [ups_n (by omega)]; exact a, fun j' y hy => ?_, by rw [ups_n (by omega)]; exact c⟩
          have hj' := (List.getElem?_eq_some_iff.mp hy).1
          have hx6 := (hD x (List.mem_of_getElem? hx)).2.1
          rw [h1 (6 * i + j') (by omega)]
          exact b j' y hy
        · have hi : i = f := by
            have := (List.getElem?_eq_some_iff.mp hx).1
            rw [List.length_append, List.length_singleton] at this
            omega
          rw [List.getElem?_append_right w, hi, hf, Nat.sub_self] at hx
          have hx2 : l = x := by simpa using hx
          subst hx2
          rw [hi]
          exact ⟨by rw [ups_s], fun j' y hy => h2 j' y (List.getElem?_eq_some_iff.mp hy).1 hy, by rw [ups_s]; exact h3⟩
      · rw [wp_X8_note_5]
        exact ⟨fun _ => ⟨by omega, by omega, by omega, by omega, h⟩, fun z => absurd z (by omega)⟩
    | succ c ih =>
      intro j sh' s hj h1 h2 h3
      have hjl : j < l.length := by omega
      have hget : l[j]? = some l[j] := List.getElem?_eq_getElem hjl
      have hx := hta j l[j] hget
      have hxb := hl.2.2 l[j] (List.getElem_mem hjl)
      generalize hX : l[j] = X at *
      obtain ⟨ma2, sh2, st2, hS2, hQ2⟩ := ih (j + 1) (ups sh' ((6 * f + j : Nat) : Int) (X : Int)) (lor64 s (shl64 1 (X : Int))) (by omega) (fun y hy => by rw [ups_n (by omega)]; exact h1 y hy) (fun i x hi hix => by
        by_cases ei : i = j
        · subst ei
          rw [ups_s]
          rw [hget] at hix
          have := Option.some.inj hix
          omega
        · rw [ups_n (by omega)]; exact h2 i x (by omega) hix) (by
        refine ⟨r_lor64 _ _, fun i => ?_⟩
        rw [bt_lor, bt_pow (by omega), h3.2]
        have et : l.take (j + 1) = l.take j ++ [X] := by rw [List.take_add_one, hget]; rfl
        rw [et]
        by_cases a1 : i ∈ l.take j
        · rw [decide_eq_true a1, decide_eq_true (List.mem_append_left _ a1)]; rfl
        · rw [decide_eq_false a1]
          by_cases a2 : i = X
          · rw [decide_eq_true a2, decide_eq_true (List.mem_append_right _ (List.mem_singleton.mpr a2))]; rfl
          · rw [decide_eq_false a2, decide_eq_false (by rw [List.mem_append, List.mem_singleton]; rintro (w | w); (exact a1 w); (exact a2 w))]; rfl)
      refine ⟨ma2, sh2, st2, hS2, fun Q h => ?_⟩
      rw [wp_X8_note_5]
      have e1 : (6 : Int) * (f : Int) + (j : Int) = ((6 * f + j : Nat) : Int) := rfl
      have e2 : (j : Int) + 1 = ((j + 1 : Nat) : Int) := rfl
      rw [e1, e2, hx]
      refine ⟨fun z => absurd z (by omega), fun _ => ⟨⟨by omega, by omega⟩, ⟨by omega, by omega⟩, by omega, by omega, fun x32 h32 => ⟨by omega, by omega, by omega, by omega, fun x44 h44 => ⟨⟨by omega, by omega⟩, ?_⟩⟩⟩⟩
      rw [h32, h44]
      exact hQ2 Q h
  obtain ⟨ma2, sh2, st2, hS2, hQ2⟩ := loop l.length 0 sh 0 (by omega) (fun y _ => rfl) (fun i x hi => by omega) ⟨⟨by omega, by omega⟩, fun i => by rw [bt_0]; simp⟩
  exact ⟨ma2, sh2, st2, hS2, fun Q h => ⟨l.length + 1, hQ2 Q h⟩⟩
def few : List (List Nat) → Int := fun D => D.foldl (fun f l => if f < 0 ∨ (l.length : Int) < f then (l.length : Int) else f) (-4)
theorem few_s {D : List (List Nat)} {l : List Nat} : few (D ++ [l]) = if few D < 0 ∨ (l.length : Int) < few D then (l.length : Int) else few D := by
  unfold few
  rw [List.foldl_append]
  rfl
def TS (p q n k : Nat) : List (List Nat) := SL (cw q) (rl n (n - 1)) k (p * WW)
theorem TS_mem {p q n k : Nat} (hn : n ≤ 60) (hn2 : 2 ≤ n) {l : List Nat} (h : l ∈ TS p q n k) : gdL k l ∧ l.Sublist (rl n (n - 1)) ∧ (l.map (cw q)).sum = p * WW := by
  obtain ⟨a, b, c, d⟩ := SL_mem _ _ _ _ h
  refine ⟨⟨?_, b, fun x hx => ?_⟩, a, d⟩
  · cases l with
    | nil => exact absurd rfl c
    | cons y r => simp
  · have := (rl_mem (n := n) (n - 1) x (by omega)).mp (a.subset hx)
    omega
theorem findSums8 {Q : Int → (Int → Int) → (Int → Int) → (Int → Int) → (Int → Int) → (Int → Int) → (Int → Int) → Int → Prop} {fo : Int} {ma sh st ta ru rd : Int → Int} {fe : Int} {p q n k : Nat} (hp : 1 ≤ p) (hpq : p < q) (hq : q ≤ 1000000) (hn : n ≤ 60) (hn2 : 2 ≤ n) (hk : k ≤ 6) (hk1 : 1 ≤ k)
    (h1 : (TS p q n k).length ≤ 2000 → ∀ ma' sh' st' ta' ru' rd' fe', Stor (TS p q n k) ma' sh' st' → Q ((TS p q n k).length : Nat) ma' sh' st' ta' ru' rd' fe')
    (h2 : 2000 < (TS p q n k).length → ∀ ma' sh' st' ta' ru' rd' fe', Q (-1) ma' sh' st' ta' ru' rd' fe') : wp_X8_findSums Q fo ma sh st ta ru rd fe p q n k 1 := by
  unfold wp_X8_findSums
  have hall : ∀ l ∈ TS p q n k, gdL 6 l := fun l hl => by
    have := (TS_mem hn hn2 hl).1
    exact ⟨this.1, Nat.le_trans this.2.1 hk, this.2.2⟩
  refine fs_run (Q := Q) (Inv := fun D _ ma' sh' st' _ co' => co' = (D.length : Nat) ∧ D.length ≤ 2000 ∧ Stor D ma' sh' st') (T := TS p q n k) (n := n) (k := k) (q := q) (ke := 1) hn hk (by omega) ?_ (n - 1) 0 1 [] [] [] (p * WW) p q fo ma sh st (ups ta 0 1) (ups ru 0 p) (ups rd 0 q) (-4) 0 (by omega) (by omega) (by omega) rfl (rep_nil _) (if_pos rfl) (if_pos rfl) (if_pos rfl) (by omega) (by omega) (by omega) (by grind) ⟨rfl, by simp, fun i l h => by simp at h⟩ ?_ ?_
  · intro D X l fo ma sh st ta ru rd fe co d hd hI hl hta hT hnext
    obtain ⟨hco, hDl, hS⟩ := hI
    have hlT : l ∈ TS p q n k := by rw [hT]; simp
    have hDT : ∀ x ∈ D, gdL 6 x := fun x hx => hall x (by rw [hT]; exact List.mem_append_left _ hx)
    by_cases hfull : 2000 ≤ D.length
    · have hlen : 2000 < (TS p q n k).length := by rw [hT, List.length_append, List.length_cons]; omega
      have stop : ∀ fe', wp_X8_findSums_36 Q 1 fo ma sh st ta ru rd fe' n k 1 co d 0 := by
        intro fe'
        rw [wp_X8_findSums_36]
        unfold wp_X8_findSums_311 wp_X8_findSums_328 wp_X8_findSums_331
        exact ⟨fun z => absurd z (by omega), fun _ => ⟨fun _ => ⟨fun z => absurd z (by omega), fun _ => ⟨fun _ => h2 hlen _ _ _ _ _ _ _, fun z => absurd rfl z⟩⟩, fun z => absurd rfl z⟩⟩
      have b170 : ∀ fe', wp_X8_findSums_170 Q (wp_X8_findSums_36 Q 1) fo ma sh st ta ru rd fe n k 1 co d fe' := by
        intro fe'
        unfold wp_X8_findSums_170 wp_X8_findSums_191 wp_X8_findSums_308
        exact ⟨fun z => absurd z (by omega), fun _ => ⟨fun _ => ⟨fun z => absurd z (by omega), fun _ => ⟨fun _ => stop fe', fun z => absurd rfl z⟩⟩, fun z => absurd z (by omega)⟩⟩
      refine ⟨1, fun _ => ⟨⟨by omega, by omega⟩, b170 _⟩, fun _ => ⟨⟨by omega, by omega⟩, fun _ => b170 _, fun _ => ⟨⟨by omega, by omega⟩, b170 _⟩⟩⟩
    · have hcol : co = ((D.length : Nat) : Int) := hco
      obtain ⟨ma2, sh2, st2, hS2, hQ2⟩ := note8 (f := D.length) rfl (by omega) (hall l hlT) hDT hta hS
      have hlen1 : ((l.length : Nat) : Int) = (d : Int) + 1 := by omega
      rw [hlen1, ← hcol] at hQ2
      have key : ∀ fe', ∃ N, wp_X8_findSums_170 Q (wp_X8_findSums_36 Q N) fo ma sh st ta ru rd fe n k 1 co d fe' := by
        intro fe'
        obtain ⟨N, hN⟩ := hnext co ma2 sh2 st2 fe' (co + 1) ⟨by rw [List.length_append, List.length_singleton]; omega, by rw [List.length_append, List.length_singleton]; omega, hS2⟩
        refine ⟨N, ?_⟩
        unfold wp_X8_findSums_170 wp_X8_findSums_186 wp_X8_findSums_191 wp_X8_findSums_308
        exact ⟨fun z => absurd z (by omega), fun _ => ⟨fun z => absurd z (by omega), fun _ => ⟨fun z => absurd z (by omega), fun _ => ⟨fun z => absurd z (by omega), fun _ => ⟨⟨by omega, by omega⟩, hQ2 _ ⟨⟨by omega, by omega⟩, hN⟩⟩⟩⟩⟩⟩
      by_cases hfe : fe < 0
      · obtain ⟨N, hN⟩ := key ((d : Int) + 1)
        exact ⟨N, fun _ => ⟨⟨by omega, by omega⟩, hN⟩, fun z => absurd hfe z⟩
      · by_cases hfe2 : fe ≤ (d : Int) + 1
        · obtain ⟨N, hN⟩ := key fe
          exact ⟨N, fun z => absurd z hfe, fun _ => ⟨⟨by omega, by omega⟩, fun _ => hN, fun z => absurd hfe2 z⟩⟩
        · obtain ⟨N, hN⟩ := key ((d : Int) + 1)
          exact ⟨N, fun z => absurd z hfe, fun _ => ⟨⟨by omega, by omega⟩, fun z => absurd z hfe2, fun _ => ⟨⟨by omega, by omega⟩, hN⟩⟩⟩
  · rw [Nat.sub_zero, List.append_nil, List.nil_append]
    show TS p q n k = (TS p q n k).map (fun l => [] ++ l)
    simp
  · intro fo' ma' sh' st' ta' ru' rd' fe' co' _ hI
    rw [Nat.sub_zero, List.nil_append] at hI
    have e : (SL (cw q) (rl n (n - 1)) k (p * WW)).map (fun l => [] ++ l) = TS p q n k := by
      show (TS p q n k).map (fun l => [] ++ l) = TS p q n k
      simp
    rw [e] at hI
    obtain ⟨hco, hl, hS⟩ := hI
    refine ⟨1, ?_⟩
    rw [wp_X8_findSums_36]
    unfold wp_X8_findSums_311 wp_X8_findSums_328 wp_X8_findSums_331
    rw [hco]
    exact ⟨fun _ => ⟨fun z => absurd z (by omega), fun _ => ⟨fun z => absurd z (by omega), fun _ => h1 hl _ _ _ _ _ _ _ hS⟩⟩, fun z => absurd z (by omega)⟩
/-- without keeping: only the fewest -/
theorem findFew8 {Q : Int → (Int → Int) → (Int → Int) → (Int → Int) → (Int → Int) → (Int → Int) → (Int → Int) → Int → Prop} {fo : Int} {ma sh st ta ru rd : Int → Int} {fe : Int} {p q n k : Nat} (hp : 1 ≤ p) (hpq : p < q) (hq : q ≤ 1000000) (hn : n ≤ 60) (hn2 : 2 ≤ n) (hk : k ≤ 6) (hk1 : 1 ≤ k)
    (h1 : ∀ ta' ru' rd', Q fo ma sh st ta' ru' rd' (few (TS p q n k))) : wp_X8_findSums Q fo ma sh st ta ru rd fe p q n k 0 := by
  unfold wp_X8_findSums
  refine fs_run (Q := Q) (Inv := fun D fo' ma' sh' st' fe' _ => fo' = fo ∧ ma' = ma ∧ sh' = sh ∧ st' = st ∧ fe' = few D) (T := TS p q n k) (n := n) (k := k) (q := q) (ke := 0) hn hk (by omega) ?_ (n - 1) 0 1 [] [] [] (p * WW) p q fo ma sh st (ups ta 0 1) (ups ru 0 p) (ups rd 0 q) (-4) 0 (by omega) (by omega) (by omega) rfl (rep_nil _) (if_pos rfl) (if_pos rfl) (if_pos rfl) (by omega) (by omega) (by omega) (by grind) ⟨rfl, rfl, rfl, rfl, rfl⟩ ?_ ?_
  · intro D X l fo' ma' sh' st' ta' ru' rd' fe' co d hd hI hl hta hT hnext
    obtain ⟨e1, e2, e3, e4, e5⟩ := hI
    have hlen1 : ((l.length : Nat) : Int) = (d : Int) + 1 := by omega
    have key : ∀ fe2, fe2 = few (D ++ [l]) → ∃ N, wp_X8_findSums_170 Q (wp_X8_findSums_36 Q N) fo' ma' sh' st' ta' ru' rd' fe' n k 0 co d fe2 := by
      intro fe2 hfe2
      obtain ⟨N, hN⟩ := hnext fo' ma' sh' st' fe2 co ⟨e1, e2, e3, e4, hfe2⟩
      refine ⟨N, ?_⟩
      unfold wp_X8_findSums_170 wp_X8_findSums_186 wp_X8_findSums_191 wp_X8_findSums_308
      exact ⟨fun _ => ⟨fun _ => hN, fun z => absurd rfl z⟩, fun z => absurd rfl z⟩
    rw [few_s, hlen1, ← e5] at key
    by_cases hfe : fe' < 0
    · obtain ⟨N, hN⟩ := key ((d : Int) + 1) (by rw [if_pos (Or.inl hfe)])
      exact ⟨N, fun _ => ⟨⟨by omega, by omega⟩, hN⟩, fun z => absurd hfe z⟩
    · by_cases hfe2 : fe' ≤ (d : Int) + 1
      · obtain ⟨N, hN⟩ := key fe' (by rw [if_neg (by omega)])
        exact ⟨N, fun z => absurd z hfe, fun _ => ⟨⟨by omega, by omega⟩, fun _ => hN, fun z => absurd hfe2 z⟩⟩
      · obtain ⟨N, hN⟩ := key ((d : Int) + 1) (by rw [if_pos (by omega)])
        exact ⟨N, fun z => absurd z hfe, fun _ => ⟨⟨by omega, by omega⟩, fun z => absurd z hfe2, fun _ => ⟨⟨by omega, by omega⟩, hN⟩⟩⟩
  · rw [Nat.sub_zero, List.append_nil, List.nil_append]
    show TS p q n k = (TS p q n k).map (fun l => [] ++ l)
    simp
  · intro fo' ma' sh' st' ta' ru' rd' fe' co' _ hI
    rw [Nat.sub_zero, List.nil_append] at hI
    have e : (SL (cw q) (rl n (n - 1)) k (p * WW)).map (fun l => [] ++ l) = TS p q n k := by
      show (TS p q n k).map (fun l => [] ++ l) = TS p q n k
      simp
    rw [e] at hI
    obtain ⟨e1, e2, e3, e4, e5⟩ := hI
    subst e1 e2 e3 e4 e5
    refine ⟨1, ?_⟩
    rw [wp_X8_findSums_36]
    unfold wp_X8_findSums_311 wp_X8_findSums_331
    exact ⟨fun _ => ⟨fun _ => h1 _ _ _, fun z => absurd rfl z⟩, fun z => absurd z (by omega)⟩
